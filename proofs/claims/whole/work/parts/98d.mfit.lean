/-! what fits: the reference row by row; fits, gave -/
theorem stepM2 {a : St} {h g : Hp} (hW : WF (sR a)) (N : Nat) (hN : 200 < N) (hM : IM a h) (e : sameM h g) {m p : Nat} (hm : okM (sR a) m) (hp : p < 16) : ∃ g', K_M_after N (nI (eM (sR a) m)) (nI (p / 4)) (nI (p % 4)) g = some (nI (eM (sR a) (aft (sR a) 0 m p)), g') ∧ sameM h g' ∧ (∀ r, r ≠ 100 → g' r = g r) ∧ ∀ f, f ≠ 13 → f ≠ 14 → g' 100 f = g 100 f := by
  obtain ⟨q1, q2, q3⟩ := IM_keep hM e
  exact ⟨_, afterM hW N (by omega) q2 (kn := 0) (by omega) q3 hm.1 (okS_in hW hm.2) hp, sameM_tr e (sameM_nx _ _ _), fun r hr => nx_ne _ _ _ hr, fun f h1 h2 => nx_f _ _ _ h1 h2⟩
def okF (ρ : Rv) (ln : List Nat) (m r k : Nat) : Prop := stN ρ m r ln.length (k + 1) % 384 / 8 = ln.getD k 0
theorem fitsRowM {k0 : Nat} {a : St} {h g : Hp} (N : Nat) (hN : 200 < N) (hk : k0 ≤ 64) (hv : VS k0 a) (hM : IM a h) (hg : sameM h g) (w : rW (sR a) ≠ 0) {r : Nat} (hr : r < 16 ^ (sN a).length) : ∃ g', K_M_fitsRow N (nI r) g = some (if fitR (sR a) (sN a) (mo (sR a) (sB a)) r = true then 1 else 0, g') ∧ sameM h g' ∧ (∀ q, q ≠ 100 → g' q = g q) ∧ ∀ f, f ≠ 13 → f ≠ 14 → g' 100 f = g 100 f := by
  have hW := hv.1
  have hl : lnk (sR a) (sN a) := hv.2.2.2.2.1
  have l4 := hl.1
  have hm0 := mo_ok hW hv.2.2.1.1 w
  have hp := p16 (q := (sN a).length) l4
  have fi := fit_iff (ρ := sR a) (sN a) (mo (sR a) (sB a)) r l4 hr
  have nL : ∀ g1, sameM h g1 → g1 100 26 = nI (sN a).length ∧ ∀ j, j < (sN a).length → g1 112 j = nI (cM (sR a) ((sN a).getD j 0)) := fun g1 e => (IM_keep hM e).1.2.2.2.2.2.2.1
  have tb := tmv_b hW
  obtain ⟨t, l1, b, g', e, f1, f2, f3, f4⟩ := loopN_inv (fun z_ : Int32 × Int32 × Int32 × Hp => K_M_fitsRow_L10 N (nI r) z_.1 z_.2.1 z_.2.2.1 z_.2.2.2) (fun s => ∃ k b g', s = (nI (eM (sR a) (stN (sR a) (mo (sR a) (sB a)) r (sN a).length k)), nI b, nI k, g') ∧ k ≤ (sN a).length ∧ sameM h g' ∧ (∀ q, q ≠ 100 → g' q = g q) ∧ (∀ f, f ≠ 13 → f ≠ 14 → g' 100 f = g 100 f) ∧ ((b = 1 ∧ ∀ j, j < k → okF (sR a) (sN a) (mo (sR a) (sB a)) r j) ∨ (b = 0 ∧ ∃ j, j < (sN a).length ∧ ¬ okF (sR a) (sN a) (mo (sR a) (sB a)) r j))) (fun s => 5 - s.2.2.1.toNatClampNeg) (fun t => ∃ b g', t = (nI b, g') ∧ sameM h g' ∧ (∀ q, q ≠ 100 → g' q = g q) ∧ (∀ f, f ≠ 13 → f ≠ 14 → g' 100 f = g 100 f) ∧ ((b = 1 ∧ ∀ j, j < (sN a).length → okF (sR a) (sN a) (mo (sR a) (sB a)) r j) ∨ (b = 0 ∧ ∃ j, j < (sN a).length ∧ ¬ okF (sR a) (sN a) (mo (sR a) (sB a)) r j))) (fun s hI => by
      obtain ⟨k, b, g1, e, q1, q2, q3, q4, q5⟩ := hI
      subst e
      obtain ⟨n1, n2⟩ := nL g1 q2
      show (∃ s', K_M_fitsRow_L10 N (nI r) (nI _) (nI b) (nI k) g1 = some (.inl s') ∧ _) ∨ (∃ t, K_M_fitsRow_L10 N (nI r) (nI _) (nI b) (nI k) g1 = some (.inr t) ∧ _)
      unfold K_M_fitsRow_L10
      rw [n1]
      by_cases c1 : (sN a).length ≤ k
      · right
        refine ⟨_, by rw [if_pos ((nI_le_iff (by omega) (by omega)).mpr c1)], b, g1, rfl, q2, q3, q4, ?_⟩
        rcases q5 with ⟨z1, z2⟩ | z
        · exact .inl ⟨z1, fun j hj => z2 j (by omega)⟩
        · exact .inr z
      · rw [if_neg (fun q => c1 ((nI_le_iff (by omega) (by omega)).mp q))]
        rcases q5 with ⟨z1, z2⟩ | ⟨z1, z2⟩
        · left
          have o := stN_ok hW hm0 r (sN a).length k
          have o2 := stN_ok hW hm0 r (sN a).length (k + 1)
          obtain ⟨g2, y1, y2, y3, y4⟩ := stepM2 hW N hN hM q2 o (prw_lt r (sN a).length k)
          obtain ⟨d1, d2⟩ := eM_q hW o2
          have hs := okS_in hW o2.2
          have hcl := cM_lt hW hs
          have hin : inR (sR a) ((sN a).getD k 0) := hl.2 _ (getD_mem (by omega))
          have hcl2 := cM_lt hW hin
          obtain ⟨n3, n4⟩ := nL g2 y2
          have pl := prw_lt r (sN a).length k
          have fin : ∀ b' : Nat, ((b' = 1 ∧ okF (sR a) (sN a) (mo (sR a) (sB a)) r k) ∨ (b' = 0 ∧ ¬ okF (sR a) (sN a) (mo (sR a) (sB a)) r k)) → ∃ s', K_M_fitsRow_J79 N (nI r) (nI (eM (sR a) (stN (sR a) (mo (sR a) (sB a)) r (sN a).length (k + 1)))) (nI k) (nI b') g2 = some (.inl s') ∧ (∃ k b g', s' = (nI (eM (sR a) (stN (sR a) (mo (sR a) (sB a)) r (sN a).length k)), nI b, nI k, g') ∧ k ≤ (sN a).length ∧ sameM h g' ∧ (∀ q, q ≠ 100 → g' q = g q) ∧ (∀ f, f ≠ 13 → f ≠ 14 → g' 100 f = g 100 f) ∧ ((b = 1 ∧ ∀ j, j < k → okF (sR a) (sN a) (mo (sR a) (sB a)) r j) ∨ (b = 0 ∧ ∃ j, j < (sN a).length ∧ ¬ okF (sR a) (sN a) (mo (sR a) (sB a)) r j))) ∧ 5 - s'.2.2.1.toNatClampNeg < 5 - (nI k).toNatClampNeg := by
            intro b' hb
            unfold K_M_fitsRow_J79
            rw [show nI k + 1 = nI (k + 1) from nI_add k 1, nm_s]
            refine ⟨_, rfl, ⟨k + 1, b', g2, rfl, by omega, y2, fun q hq => (y3 q hq).trans (q3 q hq), fun f h1 h2 => (y4 f h1 h2).trans (q4 f h1 h2), ?_⟩, ?_⟩
            · rcases hb with ⟨b1, b2⟩ | ⟨b1, b2⟩
              · refine .inl ⟨b1, fun j hj => ?_⟩
                by_cases c : j = k
                · rw [c]; exact b2
                · exact z2 j (by omega)
              · exact .inr ⟨b1, k, by omega, b2⟩
            · show 5 - (nI (k + 1)).toNatClampNeg < 5 - (nI k).toNatClampNeg
              rw [nI_cl (by omega), nI_cl (by omega)]
              omega
          rw [z1, if_neg (show ¬ nI 1 = 0 by decide), show (nI (sN a).length - 1) - nI k = nI ((sN a).length - 1 - k) by rw [show (1 : Int32) = nI 1 from rfl, nI_sub (by omega), nI_sub (by omega)], shf (by omega) (by omega), nm_s, show r / 16 ^ ((sN a).length - 1 - k) % 16 = prw r (sN a).length k from rfl]
          have y1 : K_M_after N (nI (eM (sR a) (stN (sR a) (mo (sR a) (sB a)) r (sN a).length k))) (nI (prw r (sN a).length k / 4)) (nI (prw r (sN a).length k % 4)) g1 = some (nI (eM (sR a) (stN (sR a) (mo (sR a) (sB a)) r (sN a).length (k + 1))), g2) := y1
          rw [show (4 : Int32) = nI 4 from rfl, nI_div (by omega) (by omega) (by omega), nI_rem (by omega) (by omega) (by omega), y1, bd2_s, timesM hW (IM_keep hM y2).2.1, bd_s, dz_nI (by omega) (by omega), gA_nI (by omega) (by omega), n4 k (by omega)]
          rw [d1, show (8 : Int32) = nI 8 from rfl, nI_div (by omega) (by omega) (by omega), show (8 * cM (sR a) (stN (sR a) (mo (sR a) (sB a)) r (sN a).length (k + 1) % 384 / 8) + stN (sR a) (mo (sR a) (sB a)) r (sN a).length (k + 1) % 8) / 8 = cM (sR a) (stN (sR a) (mo (sR a) (sB a)) r (sN a).length (k + 1) % 384 / 8) by omega]
          by_cases c2 : okF (sR a) (sN a) (mo (sR a) (sB a)) r k
          · rw [if_pos (show nI (cM (sR a) (stN (sR a) (mo (sR a) (sB a)) r (sN a).length (k + 1) % 384 / 8)) = nI (cM (sR a) ((sN a).getD k 0)) by rw [show stN (sR a) (mo (sR a) (sB a)) r (sN a).length (k + 1) % 384 / 8 = (sN a).getD k 0 from c2])]
            exact fin 1 (.inl ⟨rfl, c2⟩)
          · rw [if_neg (fun q => c2 (cM_inj hW hs hin ((nI_eq_iff (by omega) (by omega)).mp q)))]
            exact fin 0 (.inr ⟨rfl, c2⟩)
        · right
          refine ⟨_, by rw [z1, if_pos (show nI 0 = 0 from rfl)], 0, g1, rfl, q2, q3, q4, .inr ⟨rfl, z2⟩⟩) N (nI (eM (sR a) (mo (sR a) (sB a))), 1, 0, g) ⟨0, 1, g, rfl, Nat.zero_le _, hg, fun _ _ => rfl, fun _ _ _ => rfl, .inl ⟨rfl, fun j hj => absurd hj (Nat.not_lt_zero _)⟩⟩ (by show 5 - _ < N; omega)
  subst e
  refine ⟨g', ?_, f1, f2, f3⟩
  unfold K_M_fitsRow
  rw [stateNowM hk hv (IM_keep hM hg).1 w, bd_s, l1, bd_s]
  rcases f4 with ⟨z1, z2⟩ | ⟨z1, j, z2, z3⟩
  · rw [if_pos (fi.mpr z2), z1]; rfl
  · rw [if_neg (fun q => z3 (fi.mp q j z2)), z1]; rfl
/-- one held in all rows below i -/
def rQ (ρ : Rv) (ln : List Nat) (m who i j : Nat) : Prop := j < ln.length ∧ ∀ r, r < i → fitR ρ ln m r = true → st2 who (prw r ln.length j) = 3
def fJ (ρ : Rv) (ln : List Nat) (m : Nat) (h : Hp) (i : Nat) (g : Hp) : Prop := sameM h g ∧ g 100 27 = nI (ctN (fitR ρ ln m) i) ∧ (0 < ctN (fitR ρ ln m) i → ∃ f, g 100 28 = nI f ∧ f < i ∧ fitR ρ ln m f = true ∧ ∀ j, j < f → fitR ρ ln m j = false) ∧ HB (g 113 0) (rQ ρ ln m 0 i) ∧ HB (g 113 1) (rQ ρ ln m 1 i)
theorem findFitsM {k0 : Nat} {a : St} {h : Hp} (N : Nat) (hN : 100000 < N) (hk : k0 ≤ 64) (hv : VS k0 a) (hM : IM a h) (w : rW (sR a) ≠ 0) : ∃ g, K_M_findFits N h = some g ∧ fJ (sR a) (sN a) (mo (sR a) (sB a)) h (16 ^ (sN a).length) g := by
  have hW := hv.1
  have hl : lnk (sR a) (sN a) := hv.2.2.2.2.1
  have l4 := hl.1
  have hp := p16 (q := (sN a).length) l4
  have e12 : hset h 100 12 0 = h := hset_id hM.2.1
  have nL : ∀ g1, sameM h g1 → g1 100 26 = nI (sN a).length := fun g1 e => (IM_keep hM e).1.2.2.2.2.2.2.1.1
  obtain ⟨t, l1, l2⟩ := loopN_fx (fun z_ : Int32 × Hp => K_M_findFits_L38 N z_.1 z_.2) (fun i s => ∃ g, s = (nI i, g) ∧ fJ (sR a) (sN a) (mo (sR a) (sB a)) h i g) (16 ^ (sN a).length) (fun t => fJ (sR a) (sN a) (mo (sR a) (sB a)) h (16 ^ (sN a).length) t) (fun i s hi hJ => by
      obtain ⟨g1, e, f1, f2, f3, f4, f5⟩ := hJ
      subst e
      obtain ⟨g2, z1, z2, z3, z4⟩ := fitsRowM N (by omega) hk hv hM f1 w hi
      have v27 : g2 100 27 = nI (ctN (fitR (sR a) (sN a) (mo (sR a) (sB a))) i) := (z4 27 (by decide) (by decide)).trans f2
      have v28 : g2 100 28 = g1 100 28 := z4 28 (by decide) (by decide)
      have v113 : g2 113 = g1 113 := z3 113 (by decide)
      have cb := ctN_le (fitR (sR a) (sN a) (mo (sR a) (sB a))) i
      show ∃ s', K_M_findFits_L38 N (nI i) g1 = some (.inl s') ∧ _
      unfold K_M_findFits_L38
      rw [nL g1 f1, shl4 _ l4, if_neg (fun q => by have := (nI_le_iff (by omega) (by omega)).mp q; omega), z1, bd2_s]
      by_cases c : fitR (sR a) (sN a) (mo (sR a) (sB a)) i = true
      · rw [if_pos c, if_neg (by decide), v27]
        have ct : ctN (fitR (sR a) (sN a) (mo (sR a) (sB a))) (i + 1) = ctN (fitR (sR a) (sN a) (mo (sR a) (sB a))) i + 1 := by
          show _ + (if fitR (sR a) (sN a) (mo (sR a) (sB a)) i = true then 1 else 0) = _
          rw [if_pos c]
        have j74 : ∀ f, f < i + 1 → fitR (sR a) (sN a) (mo (sR a) (sB a)) f = true → (∀ j, j < f → fitR (sR a) (sN a) (mo (sR a) (sB a)) j = false) → ∃ s', K_M_findFits_J74 N (nI i) (nI f) g2 = some (.inl s') ∧ ∃ g, s' = (nI (i + 1), g) ∧ fJ (sR a) (sN a) (mo (sR a) (sB a)) h (i + 1) g := by
          intro f hf1 hf2 hf3
          unfold K_M_findFits_J74
          have w27 : (hset g2 100 28 (nI f)) 100 27 = nI (ctN (fitR (sR a) (sN a) (mo (sR a) (sB a))) i) := by rw [hset_at, upd_ne _ _ (by decide)]; exact v27
          rw [nm_s, w27, show nI (ctN (fitR (sR a) (sN a) (mo (sR a) (sB a))) i) + 1 = nI (ctN (fitR (sR a) (sN a) (mo (sR a) (sB a))) (i + 1)) by rw [ct]; exact nI_add _ 1, nm_s]
          have s0 : sameM h (hset (hset g2 100 28 (nI f)) 100 27 (nI (ctN (fitR (sR a) (sN a) (mo (sR a) (sB a))) (i + 1)))) := sameM_hset (sameM_hset z2 (f := 28) (by decide) _) (f := 27) (by decide) _
          obtain ⟨t2, l2, y1, y2, y3, y4⟩ := loopN_fx (fun z_ : Int32 × Hp => K_M_findFits_L89 N (nI i) z_.1 z_.2) (fun k s => ∃ g, s = (nI k, g) ∧ sameM h g ∧ (g 100 27 = nI (ctN (fitR (sR a) (sN a) (mo (sR a) (sB a))) (i + 1)) ∧ g 100 28 = nI f) ∧ HB (g 113 0) (fun j => rQ (sR a) (sN a) (mo (sR a) (sB a)) 0 i j ∧ (j < k → st2 0 (prw i (sN a).length j) = 3)) ∧ HB (g 113 1) (fun j => rQ (sR a) (sN a) (mo (sR a) (sB a)) 1 i j ∧ (j < k → st2 1 (prw i (sN a).length j) = 3))) (sN a).length (fun t => sameM h t ∧ (t 100 27 = nI (ctN (fitR (sR a) (sN a) (mo (sR a) (sB a))) (i + 1)) ∧ t 100 28 = nI f) ∧ HB (t 113 0) (fun j => rQ (sR a) (sN a) (mo (sR a) (sB a)) 0 i j ∧ (j < (sN a).length → st2 0 (prw i (sN a).length j) = 3)) ∧ HB (t 113 1) (fun j => rQ (sR a) (sN a) (mo (sR a) (sB a)) 1 i j ∧ (j < (sN a).length → st2 1 (prw i (sN a).length j) = 3))) (fun k s hk2 hJ => by
              obtain ⟨g3, e, q1, q2, q3, q4⟩ := hJ
              subst e
              have pl := prw_lt i (sN a).length k
              -- one of the two
              have one : ∀ (who : Nat) (v : Int32) (y : Nat), y < 4 → st2 who (prw i (sN a).length k) = y → HB v (fun j => rQ (sR a) (sN a) (mo (sR a) (sB a)) who i j ∧ (j < k → st2 who (prw i (sN a).length j) = 3)) → HB (v &&& (if nI y = 3 then v else (1 <<< (nI k &&& 31)) ^^^ (-1))) (fun j => rQ (sR a) (sN a) (mo (sR a) (sB a)) who i j ∧ (j < k + 1 → st2 who (prw i (sN a).length j) = 3)) := by
                intro who v y hy ey hv
                by_cases c4 : y = 3
                · rw [if_pos (show nI y = 3 by rw [c4]; rfl), HB_self hv]
                  refine HB_congr hv (fun j _ => ⟨fun q => ⟨q.1, fun hj => ?_⟩, fun q => ⟨q.1, fun hj => q.2 (by omega)⟩⟩)
                  by_cases c5 : j = k
                  · rw [c5, ey]; exact c4
                  · exact q.2 (by omega)
                · rw [if_neg (show ¬ nI y = 3 from fun q => c4 ((nI_eq_iff (b := 3) (by omega) (by omega)).mp q))]
                  refine HB_congr (HB_clr hv (k := k) (by omega)) (fun j _ => ⟨fun q => ⟨q.1.1, fun hj => q.1.2 (by have := q.2; omega)⟩, fun q => ⟨⟨q.1, fun hj => q.2 (by omega)⟩, fun ej => ?_⟩⟩)
                  have := q.2 (by omega)
                  rw [ej] at this
                  omega
              have o0 := one 0 (g3 113 0) (prw i (sN a).length k / 4) (by omega) rfl q3
              have o1 := one 1 (g3 113 1) (prw i (sN a).length k % 4) (by omega) rfl q4
              have fin : ∀ v0 v1 : Int32, HB v0 (fun j => rQ (sR a) (sN a) (mo (sR a) (sB a)) 0 i j ∧ (j < k + 1 → st2 0 (prw i (sN a).length j) = 3)) → HB v1 (fun j => rQ (sR a) (sN a) (mo (sR a) (sB a)) 1 i j ∧ (j < k + 1 → st2 1 (prw i (sN a).length j) = 3)) → ∃ g, (nI (k + 1), hset (hset g3 113 0 v0) 113 1 v1) = ((nI (k + 1), g) : Int32 × Hp) ∧ sameM h g ∧ (g 100 27 = nI (ctN (fitR (sR a) (sN a) (mo (sR a) (sB a))) (i + 1)) ∧ g 100 28 = nI f) ∧ HB (g 113 0) (fun j => rQ (sR a) (sN a) (mo (sR a) (sB a)) 0 i j ∧ (j < k + 1 → st2 0 (prw i (sN a).length j) = 3)) ∧ HB (g 113 1) (fun j => rQ (sR a) (sN a) (mo (sR a) (sB a)) 1 i j ∧ (j < k + 1 → st2 1 (prw i (sN a).length j) = 3)) := fun v0 v1 h0 h1 => ⟨_, rfl, sameM_111 (sameM_111 q1 (by decide) _) (by decide) _, ⟨by rw [hset_ne _ _ _ (by decide), hset_ne _ _ _ (by decide)]; exact q2.1, by rw [hset_ne _ _ _ (by decide), hset_ne _ _ _ (by decide)]; exact q2.2⟩, by rw [hset_at, upd_ne _ _ (by decide), hset_at, upd_at]; exact h0, by rw [hset_at, upd_at]; exact h1⟩
              have e113 : ∀ v : Int32, (hset g3 113 0 v) 113 1 = g3 113 1 := fun v => by rw [hset_at, upd_ne _ _ (by decide)]
              refine ⟨_, ?_, fin _ _ o0 o1⟩
              show K_M_findFits_L89 N (nI i) (nI k) g3 = _
              unfold K_M_findFits_L89
              rw [nL g3 q1, if_neg (fun q => by have := (nI_le_iff (by omega) (by omega)).mp q; omega), show (nI (sN a).length - 1) - nI k = nI ((sN a).length - 1 - k) by rw [show (1 : Int32) = nI 1 from rfl, nI_sub (by omega), nI_sub (by omega)], shf (by omega) (by omega), nm_s]
              show gA 2 (g3 113) 0 (fun v119 => if nI (prw i (sN a).length k) / 4 = 3 then _ else _) = _
              rw [show gA 2 (g3 113) 0 = gA 2 (g3 113) (nI 0) from rfl, gA_nI (by omega) (by omega)]
              have j141 : ∀ y3 : Int32, K_M_findFits_J141 N (nI i) (nI k) (nI (prw i (sN a).length k)) 0 (g3 113 0) y3 g3 = some (.inl (nI (k + 1), hset (hset g3 113 0 (g3 113 0 &&& y3)) 113 1 (g3 113 1 &&& (if nI (prw i (sN a).length k % 4) = 3 then g3 113 1 else (1 <<< (nI k &&& 31)) ^^^ (-1))))) := by
                intro y3
                unfold K_M_findFits_J141 K_M_findFits_J171
                rw [show sA 2 (0 : Int32) = sA (α := (Int32 × Hp) ⊕ Hp) 2 (nI 0) from rfl, sA_nI (by omega) (by omega), show Int32.toNatClampNeg (0 : Int32) = 0 from rfl, nm_s, show gA 2 ((hset g3 113 0 (g3 113 0 &&& y3)) 113) 1 = gA (α := (Int32 × Hp) ⊕ Hp) 2 ((hset g3 113 0 (g3 113 0 &&& y3)) 113) (nI 1) from rfl, gA_nI (by omega) (by omega), gA_nI (by omega) (by omega), e113, show sA 2 (1 : Int32) = sA (α := (Int32 × Hp) ⊕ Hp) 2 (nI 1) from rfl, sA_nI (by omega) (by omega), sA_nI (by omega) (by omega), show Int32.toNatClampNeg (1 : Int32) = 1 from rfl, nm_s, nm_s, show (4 : Int32) = nI 4 from rfl, nI_rem (by omega) (by omega) (by omega), show nI k + 1 = nI (k + 1) from nI_add k 1, nm_s, nm_s]
                by_cases c6 : nI (prw i (sN a).length k % 4) = 3
                · rw [if_pos c6, if_pos c6]
                · rw [if_neg c6, if_neg c6]
              rw [show (4 : Int32) = nI 4 from rfl, nI_div (by omega) (by omega) (by omega)]
              by_cases c6 : nI (prw i (sN a).length k / 4) = 3
              · rw [if_pos c6, if_pos c6, gA_nI (by omega) (by omega)]
                exact j141 _
              · rw [if_neg c6, if_neg c6]
                exact j141 _) (fun s hJ => by
              obtain ⟨g3, e, q⟩ := hJ
              subst e
              refine ⟨g3, ?_, q⟩
              show K_M_findFits_L89 N (nI i) (nI _) g3 = _
              unfold K_M_findFits_L89
              rw [nL g3 q.1, if_pos ((nI_le_iff (by omega) (by omega)).mpr (Nat.le_refl _))]) (s0 := (0, hset (hset g2 100 28 (nI f)) 100 27 (nI (ctN (fitR (sR a) (sN a) (mo (sR a) (sB a))) (i + 1))))) ⟨_, rfl, s0, ⟨by rw [hset_at, upd_at], by rw [hset_at, upd_ne _ _ (by decide), hset_at, upd_at]⟩, by
                rw [hset_ne _ _ _ (by decide), hset_ne _ _ _ (by decide), v113]
                exact HB_congr f4 (fun j _ => ⟨fun q => ⟨q, fun hj => absurd hj (Nat.not_lt_zero _)⟩, fun q => q.1⟩), by
                rw [hset_ne _ _ _ (by decide), hset_ne _ _ _ (by decide), v113]
                exact HB_congr f5 (fun j _ => ⟨fun q => ⟨q, fun hj => absurd hj (Nat.not_lt_zero _)⟩, fun q => q.1⟩)⟩ (N := N) (by omega)
          rw [l2, bd_s, show nI i + 1 = nI (i + 1) from nI_add i 1, nm_s]
          have nxt : ∀ who j, (rQ (sR a) (sN a) (mo (sR a) (sB a)) who i j ∧ (j < (sN a).length → st2 who (prw i (sN a).length j) = 3)) ↔ rQ (sR a) (sN a) (mo (sR a) (sB a)) who (i + 1) j := fun who j => ⟨fun q => ⟨q.1.1, fun r hr hf => by
            by_cases c7 : r = i
            · rw [c7]; exact q.2 q.1.1
            · exact q.1.2 r (by omega) hf⟩, fun q => ⟨⟨q.1, fun r hr => q.2 r (by omega)⟩, fun _ => q.2 i (by omega) c⟩⟩
          exact ⟨_, rfl, t2, rfl, y1, y2.1, fun _ => ⟨f, y2.2, hf1, hf2, hf3⟩, HB_congr y3 (fun j _ => nxt 0 j), HB_congr y4 (fun j _ => nxt 1 j)⟩
        by_cases c0 : ctN (fitR (sR a) (sN a) (mo (sR a) (sB a))) i = 0
        · rw [if_pos (show nI (ctN (fitR (sR a) (sN a) (mo (sR a) (sB a))) i) = 0 by rw [c0]; rfl)]
          exact j74 i (by omega) c (fun j hj => (ctN_0 _).mp c0 j hj)
        · rw [if_neg (show ¬ nI (ctN (fitR (sR a) (sN a) (mo (sR a) (sB a))) i) = 0 from fun q => c0 ((nI_eq_iff (b := 0) (by omega) (by omega)).mp q))]
          obtain ⟨f, b1, b2, b3, b4⟩ := f3 (by omega)
          rw [v28, b1]
          exact j74 f (by omega) b3 b4
      · rw [if_neg c, if_pos rfl, show nI i + 1 = nI (i + 1) from nI_add i 1, nm_s]
        have ct : ctN (fitR (sR a) (sN a) (mo (sR a) (sB a))) (i + 1) = ctN (fitR (sR a) (sN a) (mo (sR a) (sB a))) i := by
          show _ + (if fitR (sR a) (sN a) (mo (sR a) (sB a)) i = true then 1 else 0) = _
          rw [if_neg c, Nat.add_zero]
        have nxt : ∀ who j, rQ (sR a) (sN a) (mo (sR a) (sB a)) who i j ↔ rQ (sR a) (sN a) (mo (sR a) (sB a)) who (i + 1) j := fun who j => ⟨fun q => ⟨q.1, fun r hr hf => by
          by_cases c7 : r = i
          · rw [c7] at hf; exact absurd hf c
          · exact q.2 r (by omega) hf⟩, fun q => ⟨q.1, fun r hr => q.2 r (by omega)⟩⟩
        refine ⟨_, rfl, g2, rfl, z2, by rw [ct]; exact v27, fun q => ?_, by rw [v113]; exact HB_congr f4 (fun j _ => nxt 0 j), by rw [v113]; exact HB_congr f5 (fun j _ => nxt 1 j)⟩
        rw [ct] at q
        obtain ⟨f, b1, b2, b3⟩ := f3 q
        exact ⟨f, v28.trans b1, by omega, b3⟩) (fun s hJ => by
      obtain ⟨g1, e, f⟩ := hJ
      subst e
      refine ⟨g1, ?_, f⟩
      show K_M_findFits_L38 N (nI _) g1 = _
      unfold K_M_findFits_L38
      rw [nL g1 f.1, shl4 _ l4, if_pos ((nI_le_iff (by omega) (by omega)).mpr (Nat.le_refl _))]) (s0 := (0, hset (hset (hset h 100 27 0) 113 0 ((1 <<< (nI (sN a).length &&& 31)) - 1)) 113 1 ((1 <<< (nI (sN a).length &&& 31)) - 1))) ⟨_, rfl, sameM_111 (sameM_111 (sameM_hset (sameM_rf h) (f := 27) (by decide) _) (by decide) _) (by decide) _, by rw [hset_ne _ _ _ (by decide), hset_ne _ _ _ (by decide), hset_at, upd_at]; rfl, fun q => absurd q (Nat.lt_irrefl 0), by
        rw [hset_at, upd_ne _ _ (by decide), hset_at, upd_at]
        exact HB_congr (HB_init l4) (fun j _ => ⟨fun q => ⟨q, fun r hr => absurd hr (Nat.not_lt_zero _)⟩, fun q => q.1⟩), by
        rw [hset_at, upd_at]
        exact HB_congr (HB_init l4) (fun j _ => ⟨fun q => ⟨q, fun r hr => absurd hr (Nat.not_lt_zero _)⟩, fun q => q.1⟩)⟩ (N := N) (by omega)
  refine ⟨t, ?_, l2⟩
  have n26 : (hset h 100 27 0) 100 26 = nI (sN a).length := by rw [hset_at, upd_ne _ _ (by decide)]; exact nL h (sameM_rf h)
  have e113 : ∀ v : Int32, (hset (hset h 100 27 0) 113 0 v) 113 0 = v := fun v => by rw [hset_at, upd_at]
  unfold K_M_findFits
  rw [nm_s, e12, nm_s, show sA 2 (0 : Int32) = sA (α := Hp) 2 (nI 0) from rfl, sA_nI (by omega) (by omega), show Int32.toNatClampNeg (0 : Int32) = 0 from rfl, n26, nm_s, show ∀ f, gA 2 f (0 : Int32) = gA (α := Hp) 2 f (nI 0) from fun _ => rfl, gA_nI (by omega) (by omega), e113, show sA 2 (1 : Int32) = sA (α := Hp) 2 (nI 1) from rfl, sA_nI (by omega) (by omega), show Int32.toNatClampNeg (1 : Int32) = 1 from rfl, nm_s, l1, bd_s]
theorem mxL {h1 h : Hp} (z : ∀ r, r ≠ 62 → h1 r = h r) : mx [60, 61, 62, 63, 64, 20, 21, 22, 15, 16, 17] h1 h = h1 := mx_eq (fun r hr => z r (ne_of_nm hr (by decide)))
theorem MO_fits_ok (N : Nat) (hN : 100000 < N) : MO_fits N Inv := by
  intro k b0 b1 h x hk H
  have H0 := H
  obtain ⟨a, hv, hC, hM, h4, h5⟩ := H
  have hW := hv.1
  have hM0 := IM_C (h1 := h) hM
  by_cases w : rW (sR a) = 0
  · refine ⟨-1000000003, h, mx lC h h, ?_, ?_, op_no H0⟩
    · unfold K_C_fits
      rw [noSquaresK hW hC.2.2.1.1, bd_s, if_pos w, if_neg (by decide)]
    · unfold K_M_fits
      rw [isNoneM hW hM0.1, bd_s, if_pos w, if_neg (by decide)]
  · obtain ⟨h1, z1, z2, z3⟩ := countWaysK (by omega) hv hC N (by omega) w
    have hC1 : IC (k + 1) a h1 := IC_same (Nat.le_succ k) (fun r hr => z2 r (ne_of_m hr (by decide))) hC
    have hC1' : IC k a h1 := IC_same (Nat.le_refl k) (fun r hr => z2 r (ne_of_m hr (by decide))) hC
    have hMm := IM_C (h1 := h1) hM
    obtain ⟨g, y1, y2, y3, y4, y5, y6⟩ := findFitsM N hN (by omega) hv hMm w
    have hl : lnk (sR a) (sN a) := hv.2.2.2.2.1
    have l4 := hl.1
    have mp := mo_parts hW (b := sB a) hv.2.2.1.1.1
    have fin : Inv (k + 1) b0 b1 (mx lM g (mx lC h1 h)) := op_CM (VS_mono (Nat.le_succ k) hv) hC1 (z2 31 (by decide)) (z2 32 (by decide)) (IM_same y2 hMm) h4 h5
    rw [fit_count] at y3 y4
    have wb : wN (sR a) (sN a) (mo (sR a) (sB a)) ≤ 65536 := wN_b (ρ := sR a) l4 0 _
    have n26 : g 100 26 = nI (sN a).length := (IM_same y2 hMm).2.2.2.2.2.2.1.1
    have mom := momentK (by omega) hv hC1'
    have wf : K_Lines_waysFrom 0 (nI (mo (sR a) (sB a))) h1 = some (nI (wN (sR a) (sN a) (mo (sR a) (sB a)))) := by
      have e := z3 0 (mo (sR a) (sB a) % 8) (Nat.le_refl _) (Nat.zero_le _) (Nat.mod_lt _ (by decide))
      rw [mb_0 mp.2.2.1] at e
      rw [show (0 : Int32) = nI 0 from rfl, waysFromK (by omega) (by omega), e]
      rfl
    have fa := firstAtK (by omega) hv N (by omega) hC1.2.2.1 hC1.2.2.2.2.2.1 w z3 x
    have kC : K_C_fits N x h = (if x = -1 then some (nI (wN (sR a) (sN a) (mo (sR a) (sB a))), h1) else some (if 0 ≤ x.toInt ∧ x.toInt < (sN a).length ∧ 0 < wN (sR a) (sN a) (mo (sR a) (sB a)) then nI (prw (gR (sR a) (sN a) (mo (sR a) (sB a))) (sN a).length x.toInt.toNat) else -1, h1)) := by
      unfold K_C_fits
      rw [noSquaresK hW hC.2.2.1.1, bd_s, if_neg w, if_pos rfl, momentK (by omega) hv hC, bd_s, z1, bd_s, nm_s, mxL z2, mom, bd_s, bd_s, wf, bd_s, fa, bd_s]
    have kM : K_M_fits N x (mx lC h1 h) = (if x = -1 then some (nI (wN (sR a) (sN a) (mo (sR a) (sB a))), g) else some (if 0 ≤ x.toInt ∧ x.toInt < (sN a).length ∧ 0 < wN (sR a) (sN a) (mo (sR a) (sB a)) then nI (prw (gR (sR a) (sN a) (mo (sR a) (sB a))) (sN a).length x.toInt.toNat) else -1, g)) := by
      unfold K_M_fits
      have en : Int32.toInt64 (nI (sN a).length - 1) = iL (((sN a).length : Int) - 1) := by
        rw [nI_iI, show (1 : Int32) = iI 1 from rfl, iI_sub, toI64 (by omega) (by omega)]
      rw [isNoneM hW hMm.1, bd_s, if_neg w, if_pos rfl, y1, bd_s, y3, n26, inX (a := 0) (lo := 0) (hi := ((sN a).length : Int) - 1) (by decide) en (by omega) (by omega) (by omega) (by omega), bd_s]
      by_cases c1 : x = -1
      · rw [if_pos c1, if_pos c1]
      · rw [if_neg c1, if_neg c1]
        by_cases c2 : wN (sR a) (sN a) (mo (sR a) (sB a)) = 0
        · rw [if_pos (show nI (wN (sR a) (sN a) (mo (sR a) (sB a))) ≤ (0 : Int32) by rw [c2]; decide), if_neg (by omega)]
        · rw [if_neg (show ¬ nI (wN (sR a) (sN a) (mo (sR a) (sB a))) ≤ (0 : Int32) from fun q => by have := (nI_le_iff (b := 0) (by omega) (by omega)).mp q; omega)]
          by_cases c3 : 0 ≤ x.toInt ∧ x.toInt ≤ ((sN a).length : Int) - 1
          · rw [if_pos c3, if_neg (by decide), if_pos (show 0 ≤ x.toInt ∧ x.toInt < (sN a).length ∧ 0 < wN (sR a) (sN a) (mo (sR a) (sB a)) from ⟨c3.1, by omega, by omega⟩)]
            obtain ⟨f, b1, b2, b3, b4⟩ := y4 (by omega)
            obtain ⟨g1, g2, g3⟩ := gR_ok (sR a) (sN a) (mo (sR a) (sB a)) (by omega)
            have ef : f = gR (sR a) (sN a) (mo (sR a) (sB a)) := by
              rcases Nat.lt_trichotomy f (gR (sR a) (sN a) (mo (sR a) (sB a))) with c | c | c
              · have := g3 f c
                rw [b3] at this
                exact absurd this (by decide)
              · exact c
              · have := b4 _ c
                rw [g2] at this
                exact absurd this (by decide)
            obtain ⟨i, hi, ei⟩ := nat_of (x := x) (n := 3) (by omega)
            have ti : x.toInt.toNat = i := by rw [ei, nI_toInt (by omega)]; omega
            have hp := p16 (q := (sN a).length) l4
            rw [ti, b1, ei, show (nI (sN a).length - 1) - nI i = nI ((sN a).length - 1 - i) by rw [show (1 : Int32) = nI 1 from rfl, nI_sub (by omega), nI_sub (by omega)], shf (by omega) (by omega), ef]
            rfl
          · rw [if_neg c3, if_pos rfl, if_neg (show ¬ (0 ≤ x.toInt ∧ x.toInt < (sN a).length ∧ 0 < wN (sR a) (sN a) (mo (sR a) (sB a))) by omega)]
    rw [kC]
    by_cases c1 : x = -1
    · exact ⟨_, h1, g, by rw [if_pos c1], by rw [kM, if_pos c1], fin⟩
    · exact ⟨_, h1, g, by rw [if_neg c1], by rw [kM, if_neg c1], fin⟩
theorem MO_gave_ok (N : Nat) (hN : 100000 < N) : MO_gave N Inv := by
  intro k b0 b1 h x hk H
  have H0 := H
  obtain ⟨a, hv, hC, hM, h4, h5⟩ := H
  have hW := hv.1
  have hM0 := IM_C (h1 := h) hM
  by_cases cx : 0 ≤ x.toInt ∧ x.toInt ≤ 1
  · by_cases w : rW (sR a) = 0
    · refine ⟨-1000000003, h, mx lC h h, ?_, ?_, op_no H0⟩
      · unfold K_C_gave
        rw [out1, bd_s, if_pos cx, if_pos rfl, noSquaresK hW hC.2.2.1.1, bd_s, if_pos w, if_neg (by decide)]
      · unfold K_M_gave
        rw [in1, bd_s, if_pos cx, if_neg (by decide), isNoneM hW hM0.1, bd_s, if_pos w, if_neg (by decide)]
    · obtain ⟨who, hwho, ew⟩ := nat_of (n := 1) cx
      obtain ⟨h1, z1, z2, z3⟩ := countWaysK (by omega) hv hC N (by omega) w
      have hC1 : IC (k + 1) a h1 := IC_same (Nat.le_succ k) (fun r hr => z2 r (ne_of_m hr (by decide))) hC
      have hC1' : IC k a h1 := IC_same (Nat.le_refl k) (fun r hr => z2 r (ne_of_m hr (by decide))) hC
      have hMm := IM_C (h1 := h1) hM
      obtain ⟨g, y1, y2, y3, y4, y5, y6⟩ := findFitsM N hN (by omega) hv hMm w
      have hl : lnk (sR a) (sN a) := hv.2.2.2.2.1
      have l4 := hl.1
      have fin : Inv (k + 1) b0 b1 (mx lM g (mx lC h1 h)) := op_CM (VS_mono (Nat.le_succ k) hv) hC1 (z2 31 (by decide)) (z2 32 (by decide)) (IM_same y2 hMm) h4 h5
      rw [fit_count] at y3 y4
      have wb : wN (sR a) (sN a) (mo (sR a) (sB a)) ≤ 65536 := wN_b (ρ := sR a) l4 0 _
      have mom := momentK (by omega) hv hC1'
      obtain ⟨v, v1, v2⟩ := heldK hv N (by omega) hC1.2.2.1 hC1.2.2.2.2.2.1 z3 hwho
      have kC : K_C_gave N x h = some (v, h1) := by
        unfold K_C_gave
        rw [out1, bd_s, if_pos cx, if_pos rfl, noSquaresK hW hC.2.2.1.1, bd_s, if_neg w, if_pos rfl, momentK (by omega) hv hC, bd_s, z1, bd_s, nm_s, mxL z2, mom, bd_s, ew, v1, bd_s]
      refine ⟨v, h1, g, kC, ?_, fin⟩
      unfold K_M_gave
      rw [in1, bd_s, if_pos cx, if_neg (by decide), isNoneM hW hMm.1, bd_s, if_neg w, if_pos rfl, y1, bd_s, y3]
      rcases v2 with ⟨q1, q2⟩ | ⟨q1, q2⟩
      · rw [if_pos (show nI (wN (sR a) (sN a) (mo (sR a) (sB a))) = 0 by rw [q1]; rfl), q2]
      · rw [if_neg (show ¬ nI (wN (sR a) (sN a) (mo (sR a) (sB a))) = 0 from fun q => by have := (nI_eq_iff (b := 0) (by omega) (by omega)).mp q; omega), ew, gA_nI (by omega) (by omega)]
        have key : ∀ j, oQ (sR a) (sN a) (mo (sR a) (sB a)) who (sN a).length j ↔ rQ (sR a) (sN a) (mo (sR a) (sB a)) who (16 ^ (sN a).length) j := fun j => ⟨fun q => ⟨q.1, fun r hr hf => q.2 q.1 _ ⟨r, hr, hf, rfl⟩⟩, fun q => ⟨q.1, fun _ p ⟨r, r1, r2, r3⟩ => by rw [← r3]; exact q.2 r r1 r2⟩⟩
        rcases (by omega : who = 0 ∨ who = 1) with c | c
        · subst c
          rw [HB_eq q2 y5 (fun j _ => key j)]
        · subst c
          rw [HB_eq q2 y6 (fun j _ => key j)]
  · refine ⟨-1000000002, h, mx lC h h, ?_, ?_, op_no H0⟩
    · unfold K_C_gave
      rw [out1, bd_s, if_neg cx, if_neg (by decide)]
    · unfold K_M_gave
      rw [in1, bd_s, if_neg cx, if_pos rfl]

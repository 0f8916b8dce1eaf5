/-! calls: both answer alike -/
/-- the fewest calls at the goal after n strokes -/
def lpN (ρ : Rv) (m0 p0 n v : Nat) : Prop := (v = 99999999 ∧ ∀ c, ¬ Gc ρ m0 p0 c n) ∨ (v ≤ n ∧ Gc ρ m0 p0 v n ∧ ∀ c, c < v → ¬ Gc ρ m0 p0 c n)
theorem leastCalledM {a : St} {h g : Hp} (hW : WF (sR a)) (w : rW (sR a) ≠ 0) (N : Nat) (hN : 60000 < N) (hM : IM a h) (hg : sameM h g) {m0 p0 n : Nat} (hm0 : okM (sR a) m0) (hn : n ≤ 60) {V : Nat → Nat → Nat} (hV : VT (sR a) 109 V g) (hK : ∀ m p, okM (sR a) m → p < 16 → KP (sR a) m0 p0 n m p (V m p)) :
    ∃ v, K_M_leastCalled N g = some (nI v) ∧ v ≤ 99999999 ∧ lpN (sR a) m0 p0 n v := by
  have sb := states_b hW
  have tb := tmv_b hW
  have st := statesM hW hM hg
  have dec := fun s (hs : s < rW (sR a) * rH (sR a) * 8 * tmv (sR a)) => dE_ok hW w hs
  have elt : ∀ m, okM (sR a) m → eM (sR a) m < rW (sR a) * rH (sR a) * 8 * tmv (sR a) := fun m hm => eM_lt hW hm
  generalize hS : rW (sR a) * rH (sR a) * 8 * tmv (sR a) = S at *
  obtain ⟨t, l1, v, e, f1, f2, f3⟩ := loopN_fx (fun z_ : Int32 × Int32 => K_M_leastCalled_L5 N z_.1 z_.2 g) (fun i s => ∃ v, s = (nI v, nI i) ∧ v ≤ 99999999 ∧ (∀ m p, okM (sR a) m → p < 16 → isG (sR a) (m % 384) = true → 16 * eM (sR a) m + p < i → v ≤ V m p) ∧ (v = 99999999 ∨ ∃ m p, okM (sR a) m ∧ p < 16 ∧ isG (sR a) (m % 384) = true ∧ v = V m p)) (16 * S) (fun t => ∃ v, t = nI v ∧ v ≤ 99999999 ∧ (∀ m p, okM (sR a) m → p < 16 → isG (sR a) (m % 384) = true → v ≤ V m p) ∧ (v = 99999999 ∨ ∃ m p, okM (sR a) m ∧ p < 16 ∧ isG (sR a) (m % 384) = true ∧ v = V m p)) (fun i s hi hJ => by
      obtain ⟨v, e, f1, f2, f3⟩ := hJ
      subst e
      have hs : i / 16 < S := by omega
      have d := dec _ hs
      have keep : (∀ m p, okM (sR a) m → p < 16 → isG (sR a) (m % 384) = true → 16 * eM (sR a) m + p = i → v ≤ V m p) → ∃ s', K_M_leastCalled_J46 N (nI v) (nI i) g = some (.inl s') ∧ ∃ v, s' = (nI v, nI (i + 1)) ∧ v ≤ 99999999 ∧ (∀ m p, okM (sR a) m → p < 16 → isG (sR a) (m % 384) = true → 16 * eM (sR a) m + p < i + 1 → v ≤ V m p) ∧ (v = 99999999 ∨ ∃ m p, okM (sR a) m ∧ p < 16 ∧ isG (sR a) (m % 384) = true ∧ v = V m p) := fun hh => by
        unfold K_M_leastCalled_J46 K_M_leastCalled_J47
        rw [show nI i + 1 = nI (i + 1) from nI_add i 1, nm_s]
        refine ⟨_, rfl, v, rfl, f1, fun m p hm hp hgl hl => ?_, f3⟩
        by_cases c : 16 * eM (sR a) m + p = i
        · exact hh m p hm hp hgl c
        · exact f2 m p hm hp hgl (by omega)
      show ∃ s', K_M_leastCalled_L5 N (nI v) (nI i) g = some (.inl s') ∧ _
      unfold K_M_leastCalled_L5
      rw [st, bd_s, show (16 : Int32) = nI 16 from rfl, nI_mul, if_neg (fun q => by have := (nI_le_iff (by omega) (by omega)).mp q; omega), gA_nI (by omega) (by omega), gA_nI (by omega) (by omega), nI_div (by omega) (by omega) (by omega)]
      have place : ∀ m p, okM (sR a) m → p < 16 → 16 * eM (sR a) m + p = i → m = dE (sR a) (i / 16) ∧ p = i % 16 := fun m p hm hp ee => ⟨eM_inj2 hW hm.1 (okS_in hW hm.2) d.1 d.2.1 (by rw [d.2.2.1]; omega), by omega⟩
      by_cases om : okM (sR a) (dE (sR a) (i / 16))
      · have vv := hV.1 (dE (sR a) (i / 16)) (i % 16) om (Nat.mod_lt _ (by decide))
        rw [d.2.2.1, show 16 * (i / 16) + i % 16 = i by omega] at vv
        have kb := KP_b (hK _ (i % 16) om (Nat.mod_lt _ (by decide))) hn
        have gs := goalStM hW hM hg om
        rw [d.2.2.1] at gs
        rw [vv]
        by_cases c : v ≤ V (dE (sR a) (i / 16)) (i % 16)
        · rw [if_pos ((nI_le_iff (by omega) (by omega)).mpr c)]
          refine keep (fun m p hm hp _ ee => ?_)
          obtain ⟨e1, e2⟩ := place m p hm hp ee
          rw [e1, e2]; exact c
        · rw [if_neg (fun q => c ((nI_le_iff (by omega) (by omega)).mp q)), gs, bd_s]
          by_cases c2 : isG (sR a) (dE (sR a) (i / 16) % 384) = true
          · rw [if_pos c2, if_neg (by decide)]
            unfold K_M_leastCalled_J47
            rw [show nI i + 1 = nI (i + 1) from nI_add i 1, nm_s]
            refine ⟨_, rfl, V (dE (sR a) (i / 16)) (i % 16), rfl, kb, fun m p hm hp hgl hl => ?_, .inr ⟨_, _, om, Nat.mod_lt _ (by decide), c2, rfl⟩⟩
            by_cases c3 : 16 * eM (sR a) m + p = i
            · obtain ⟨e1, e2⟩ := place m p hm hp c3
              rw [e1, e2]; exact Nat.le_refl _
            · have := f2 m p hm hp hgl (by omega)
              omega
          · rw [if_neg c2, if_pos rfl]
            refine keep (fun m p hm hp hgl ee => ?_)
            rw [(place m p hm hp ee).1] at hgl
            exact absurd hgl c2
      · have vv := hV.2 (i / 16) (i % 16) (by rw [hS]; exact hs) om (Nat.mod_lt _ (by decide))
        rw [show 16 * (i / 16) + i % 16 = i by omega] at vv
        rw [vv, if_pos ((nI_le_iff (by omega) (by omega)).mpr f1)]
        refine keep (fun m p hm hp _ ee => ?_)
        rw [(place m p hm hp ee).1] at hm
        exact absurd hm om) (fun s hJ => by
      obtain ⟨v, e, f1, f2, f3⟩ := hJ
      subst e
      refine ⟨nI v, ?_, v, rfl, f1, fun m p hm hp hgl => f2 m p hm hp hgl (by have := elt m hm; omega), f3⟩
      show K_M_leastCalled_L5 N (nI v) (nI (16 * S)) g = _
      unfold K_M_leastCalled_L5
      rw [st, bd_s, show (16 : Int32) = nI 16 from rfl, nI_mul, if_pos ((nI_le_iff (by omega) (by omega)).mpr (Nat.le_refl _))]) (s0 := (99999999, 0)) ⟨99999999, rfl, Nat.le_refl _, fun m p _ _ _ hl => absurd hl (Nat.not_lt_zero _), .inl rfl⟩ (N := N) (by omega)
  subst e
  refine ⟨v, ?_, f1, ?_⟩
  · unfold K_M_leastCalled
    rw [l1, bd_s]
  · have le : ∀ c, Gc (sR a) m0 p0 c n → v ≤ c := fun c hG => by
      obtain ⟨m, p, hp, hR, hgl⟩ := hG
      have om := Rc_ok hW hm0 _ _ _ _ hR
      have a1 := f2 m p om hp hgl
      have a2 := KP_le (hK m p om hp) hR
      omega
    by_cases c9 : v = 99999999
    · left
      refine ⟨c9, fun c hG => ?_⟩
      obtain ⟨m, p, hp, hR, hgl⟩ := hG
      have := le n ⟨m, p, hp, Rc_cap _ _ _ _ hR, hgl⟩
      omega
    · right
      rcases f3 with z | ⟨m, p, om, hp, hgl, z⟩
      · exact absurd z c9
      · obtain ⟨b1, b2⟩ := KP_at (hK m p om hp) (by omega)
        rw [← z] at b1 b2
        exact ⟨b1, ⟨m, p, hp, b2, hgl⟩, fun c hc hG => by have := le c hG; omega⟩
/-- the best up to n strokes -/
def BP (ρ : Rv) (m0 p0 n b : Nat) (s : Int32) : Prop := (b = 99999999 ∧ s = -1 ∧ ∀ n' c, n' ≤ n → ¬ Gc ρ m0 p0 c n') ∨ (b ≤ 60 ∧ ∃ t, t ≤ n ∧ s = nI t ∧ Gc ρ m0 p0 b t ∧ (∀ n' c, n' ≤ n → c < b → ¬ Gc ρ m0 p0 c n') ∧ ∀ t', t' < t → ¬ Gc ρ m0 p0 b t')
theorem BP_next {ρ : Rv} {m0 p0 n b v : Nat} {s : Int32} (hn : n + 1 ≤ 60) (h : BP ρ m0 p0 n b s) (hv : lpN ρ m0 p0 (n + 1) v) : BP ρ m0 p0 (n + 1) (if b ≤ v then b else v) (if b ≤ v then s else nI (n + 1)) := by
  by_cases c : b ≤ v
  · rw [if_pos c, if_pos c]
    rcases h with ⟨h1, h2, h3⟩ | ⟨h1, t, h2, h3, h4, h5, h6⟩
    · left
      refine ⟨h1, h2, fun n' c' hn' => ?_⟩
      by_cases e : n' = n + 1
      · subst e
        rcases hv with ⟨_, z⟩ | ⟨z, _⟩
        · exact z c'
        · omega
      · exact h3 n' c' (by omega)
    · right
      refine ⟨h1, t, by omega, h3, h4, fun n' c' hn' hc' => ?_, h6⟩
      by_cases e : n' = n + 1
      · subst e
        rcases hv with ⟨_, z⟩ | ⟨_, _, z⟩
        · exact z c'
        · exact z c' (by omega)
      · exact h5 n' c' (by omega) hc'
  · rw [if_neg c, if_neg c]
    right
    rcases hv with ⟨z, _⟩ | ⟨z1, z2, z3⟩
    · rcases h with ⟨h1, _⟩ | ⟨h1, _⟩ <;> omega
    · refine ⟨by omega, n + 1, Nat.le_refl _, rfl, z2, fun n' c' hn' hc' => ?_, fun t' ht' hG => ?_⟩
      · by_cases e : n' = n + 1
        · subst e; exact z3 c' hc'
        · rcases h with ⟨_, _, h3⟩ | ⟨_, _, _, _, _, h5, _⟩
          · exact h3 n' c' (by omega)
          · exact h5 n' c' (by omega) (by omega)
      · rcases h with ⟨_, _, h3⟩ | ⟨_, _, _, _, _, h5, _⟩
        · exact h3 t' v (by omega) hG
        · exact h5 t' v (by omega) (by omega) hG
theorem MO_calls_ok (N : Nat) (hN : 60000 < N) : MO_calls N Inv := by
  intro k b0 b1 h x c hk H
  have H0 := H
  obtain ⟨a, hv, hC, hM, h4, h5⟩ := H
  have hW := hv.1
  have hM0 := IM_C (h1 := h) hM
  have ex : ∀ v : Int32, K_C_calls N x c h = some (v, h) → K_M_calls N x c (mx lC h h) = some (v, mx lC h h) → ∃ (r : Int32) (h1 : Hp) (h2 : Hp), K_C_calls N x c h = some (r, h1) ∧ K_M_calls N x c (mx lC h1 h) = some (r, h2) ∧ Inv (k + 1) b0 b1 (mx lM h2 (mx lC h1 h)) := fun v e1 e2 => ⟨v, h, mx lC h h, e1, e2, op_no H0⟩
  by_cases cx : 0 ≤ x.toInt ∧ x.toInt ≤ 15
  · by_cases cc : 0 ≤ c.toInt ∧ c.toInt ≤ 1
    · by_cases w : rW (sR a) = 0
      · refine ex (-1000000003) ?_ ?_
        · unfold K_C_calls
          rw [out15, bd_s, if_pos cx, if_pos rfl, out1, bd_s, if_pos cc, if_pos rfl, noSquaresK hW hC.2.2.1.1, bd_s, if_pos w, if_neg (by decide)]
        · unfold K_M_calls
          rw [in15, bd_s, if_pos cx, if_neg (by decide), in1, bd_s, if_pos cc, if_neg (by decide), isNoneM hW hM0.1, bd_s, if_pos w, if_neg (by decide)]
      · obtain ⟨p0, hp, ep⟩ := nat_of (n := 15) cx
        have hp0 : p0 < 16 := by omega
        have hm0 := mo_ok hW hv.2.2.1.1 w
        obtain ⟨h1, z1, z2, z3, z4⟩ := clookK hW N (by omega) hk hC.2.2.1.1 hC.2.2.1.2.1 hC.2.2.1.2.2 hm0 hp0 hC.2.2.2.2.2.2.2.2.2.2.1
        have hC1 : IC (k + 1) a h1 := IC_up (Nat.le_succ k) hC [45, 48] (fun r hr hX => z2 r (fun q => by
            have n1 : r ≠ 45 := ne_of_nm hX (by decide)
            have n2 : r ≠ 48 := ne_of_nm hX (by decide)
            have n3 : r ≠ 46 := ne_of_m hr (by decide)
            have n4 : r ≠ 47 := ne_of_m hr (by decide)
            have n5 : r ≠ 49 := ne_of_m hr (by decide)
            simp only [List.mem_cons, List.not_mem_nil, or_false] at q
            omega)) (c11 := .inr z4)
        have hMm := IM_C (h1 := h1) hM
        have e12 : hset (mx lC h1 h) 100 12 0 = mx lC h1 h := hset_id hMm.2.1
        have fin : ∀ h2 : Hp, sameM (mx lC h1 h) h2 → Inv (k + 1) b0 b1 (mx lM h2 (mx lC h1 h)) := fun h2 q => op_CM (VS_mono (Nat.le_succ k) hv) hC1 (z2 31 (by decide)) (z2 32 (by decide)) (IM_same q hMm) h4 h5
        have kC : K_C_calls N x c h = some (if c = 0 then h1 45 6 else h1 45 7, h1) := by
          unfold K_C_calls
          rw [out15, bd_s, if_pos cx, if_pos rfl, out1, bd_s, if_pos cc, if_pos rfl, noSquaresK hW hC.2.2.1.1, bd_s, if_neg w, if_pos rfl, momentK (by omega) hv hC, bd_s, ep, z1, bd_s, nm_s, mx_eq (fun r hr => z2 r (fun q => hr ((by decide : ∀ r ∈ ([45, 46, 47, 48, 49] : List Nat), r ∈ [45, 46, 47, 48, 49, 10, 11, 12, 20, 21, 22, 15, 16, 17]) r q)))]
          by_cases c0 : c = 0
          · rw [if_pos c0, if_pos c0]
          · rw [if_neg c0, if_neg c0]
        rw [kC]
        suffices hh : ∃ (r : Int32) (h2 : Hp), some (if c = 0 then h1 45 6 else h1 45 7, h1) = some (r, h1) ∧ K_M_calls N x c (mx lC h1 h) = some (r, h2) ∧ Inv (k + 1) b0 b1 (mx lM h2 (mx lC h1 h)) by
          obtain ⟨r, h2, a1, a2, a3⟩ := hh
          exact ⟨r, h1, h2, a1, a2, a3⟩
        generalize mx lC h1 h = hh0 at hMm e12 fin ⊢
        have sb := states_b hW
        have em0 := eM_lt hW hm0
        have st : ∀ g1, sameM hh0 g1 → K_M_states g1 = some (nI (rW (sR a) * rH (sR a) * 8 * tmv (sR a))) := fun g1 e => statesM hW hMm e
        obtain ⟨g1, l1, f1, f2, f3⟩ := fillM hW N hN hMm (sameM_rf hh0) (r := 109) (by decide) (fun z_ : Int32 × Hp => K_M_calls_L42 N x c z_.1 z_.2) (fun i g1 e hi => by
            show K_M_calls_L42 N x c (nI i) g1 = _
            unfold K_M_calls_L42
            rw [st g1 e, bd_s, show (16 : Int32) = nI 16 from rfl, nI_mul, if_neg (fun q => by have := (nI_le_iff (by omega) (by omega)).mp q; omega), sA_nI (by omega) (by omega), nI_cl (by omega), nm_s, show nI i + 1 = nI (i + 1) from nI_add i 1, nm_s]) (fun g1 e => by
            show K_M_calls_L42 N x c (nI _) g1 = _
            unfold K_M_calls_L42
            rw [st g1 e, bd_s, show (16 : Int32) = nI 16 from rfl, nI_mul, if_pos ((nI_le_iff (by omega) (by omega)).mpr (Nat.le_refl _))])
        have s2 : sameM hh0 (hset g1 109 (16 * eM (sR a) (mo (sR a) (sB a)) + p0) 0) := sameM_111 f1 (by decide) _
        have V0 : VT (sR a) 109 (fun m p => if m = mo (sR a) (sB a) ∧ p = p0 then 0 else 99999999) (hset g1 109 (16 * eM (sR a) (mo (sR a) (sB a)) + p0) 0) := by
          refine ⟨fun m p hm hp' => ?_, fun s p hs hno hp' => ?_⟩
          · have l := eM_lt hW hm
            show _ = nI (if m = mo (sR a) (sB a) ∧ p = p0 then 0 else 99999999)
            rw [hset_at]
            by_cases c1 : m = mo (sR a) (sB a) ∧ p = p0
            · rw [if_pos c1, c1.1, c1.2, upd_at]; rfl
            · rw [if_neg c1, upd_ne _ _ (fun ee => c1 ⟨eM_inj hW hm hm0 (by omega), by omega⟩)]
              exact f3 _ (by omega)
          · rw [hset_at, upd_ne _ _ (fun ee => hno (by
              have d := dE_ok hW w hs
              have := eM_inj2 hW hm0.1 (okS_in hW hm0.2) d.1 d.2.1 (by rw [d.2.2.1]; omega)
              rw [← this]; exact hm0))]
            exact f3 _ (by omega)
        have K0 : ∀ m p, okM (sR a) m → p < 16 → KP (sR a) (mo (sR a) (sB a)) p0 0 m p (if m = mo (sR a) (sB a) ∧ p = p0 then 0 else 99999999) := fun m p _ _ => by
          by_cases c1 : m = mo (sR a) (sB a) ∧ p = p0
          · rw [if_pos c1]; exact .inr ⟨Nat.le_refl _, c1, fun c hc => absurd hc (Nat.not_lt_zero _)⟩
          · rw [if_neg c1]; exact .inl ⟨rfl, fun c z => c1 z⟩
        obtain ⟨v0, y1, y2, y3⟩ := leastCalledM hW w N hN hMm s2 hm0 (by omega) V0 K0
        have B0 : BP (sR a) (mo (sR a) (sB a)) p0 0 v0 (if nI v0 = 99999999 then -1 else 0) := by
          rcases y3 with ⟨q1, q2⟩ | ⟨q1, q2, q3⟩
          · left
            refine ⟨q1, by rw [if_pos (show nI v0 = 99999999 by rw [q1]; rfl)], fun n' c' hn' => ?_⟩
            have : n' = 0 := by omega
            rw [this]; exact q2 c'
          · right
            refine ⟨by omega, 0, Nat.le_refl _, by rw [if_neg (fun z => by have := (nI_eq_iff (b := 99999999) (by omega) (by omega)).mp z; omega)]; rfl, q2, fun n' c' hn' hc' => by omega, fun t' ht' => absurd ht' (Nat.not_lt_zero _)⟩
        -- stroke by stroke
        obtain ⟨t, l2, b, s, g3, e3, w1, w2, w3⟩ := loopN_inv (fun z_ : Int32 × Int32 × Int32 × Hp => K_M_calls_L103 N c z_.1 z_.2.1 z_.2.2.1 z_.2.2.2) (fun z => ∃ b s n g V, z = (nI b, s, nI (n + 1), g) ∧ n ≤ 60 ∧ b ≤ 99999999 ∧ sameM hh0 g ∧ VT (sR a) 109 V g ∧ (∀ m p, okM (sR a) m → p < 16 → KP (sR a) (mo (sR a) (sB a)) p0 n m p (V m p)) ∧ BP (sR a) (mo (sR a) (sB a)) p0 n b s) (fun z => 62 - z.2.2.1.toNatClampNeg) (fun t => ∃ b s g, t = (nI b, s, g) ∧ b ≤ 99999999 ∧ sameM hh0 g ∧ ∃ n, n ≤ 60 ∧ (n = 60 ∨ b = 0) ∧ BP (sR a) (mo (sR a) (sB a)) p0 n b s) (fun z hI => by
            obtain ⟨b, s, n, g, V, e, q1, q2, q3, q4, q5, q6⟩ := hI
            subst e
            show (∃ s', K_M_calls_L103 N c (nI b) s (nI (n + 1)) g = some (.inl s') ∧ _) ∨ (∃ t, K_M_calls_L103 N c (nI b) s (nI (n + 1)) g = some (.inr t) ∧ _)
            unfold K_M_calls_L103
            by_cases c1 : 60 < n + 1
            · right
              exact ⟨_, by rw [if_pos (show (60 : Int32) < nI (n + 1) from (nI_lt_iff (a := 60) (by omega) (by omega)).mpr c1)], b, s, g, rfl, q2, q3, n, q1, .inl (by omega), q6⟩
            · rw [if_neg (show ¬ (60 : Int32) < nI (n + 1) from fun q => c1 ((nI_lt_iff (a := 60) (by omega) (by omega)).mp q))]
              by_cases c2 : b = 0
              · right
                exact ⟨_, by rw [if_pos (show nI b ≤ (0 : Int32) by rw [c2]; decide)], b, s, g, rfl, q2, q3, n, q1, .inr c2, q6⟩
              · left
                rw [if_neg (show ¬ nI b ≤ (0 : Int32) from fun q => by have := (nI_le_iff (b := 0) (by omega) (by omega)).mp q; omega)]
                obtain ⟨g2, U, x1, x2, x3, x4⟩ := callOnM hW w N hN hMm q3 hm0 q1 q4 q5
                obtain ⟨v, x5, x6, x7⟩ := leastCalledM hW w N hN hMm x2 hm0 (by omega) x3 x4
                have nb := BP_next (by omega) q6 x7
                refine ⟨(nI (if b ≤ v then b else v), (if b ≤ v then s else nI (n + 1)), nI (n + 1 + 1), g2), ?_, ⟨_, _, n + 1, g2, U, rfl, by omega, by split <;> omega, x2, x3, x4, nb⟩, ?_⟩
                · rw [x1, bd_s, x5, bd_s]
                  unfold K_M_calls_J137 K_M_calls_J151
                  rw [show nI (n + 1) + 1 = nI (n + 1 + 1) from nI_add (n + 1) 1, nm_s, nm_s, nm_s, nm_s]
                  by_cases c3 : b ≤ v
                  · rw [if_pos ((nI_le_iff (by omega) (by omega)).mpr c3), if_pos ((nI_le_iff (by omega) (by omega)).mpr c3), if_pos c3, if_pos c3]
                  · rw [if_neg (fun q => c3 ((nI_le_iff (by omega) (by omega)).mp q)), if_neg (fun q => c3 ((nI_le_iff (by omega) (by omega)).mp q)), if_neg c3, if_neg c3]
                · show 62 - (nI (n + 1 + 1)).toNatClampNeg < 62 - (nI (n + 1)).toNatClampNeg
                  rw [nI_cl (by omega), nI_cl (by omega)]
                  omega) N (nI v0, (if nI v0 = 99999999 then -1 else 0), nI 1, hset g1 109 (16 * eM (sR a) (mo (sR a) (sB a)) + p0) 0) ⟨v0, _, 0, _, _, rfl, by omega, y2, s2, V0, K0, B0⟩ (by show 62 - _ < N; omega)
        subst e3
        have kM : K_M_calls N x c hh0 = (if nI b = 99999999 then some (-1, g3) else if c = 0 then some (nI b, g3) else some (s, g3)) := by
          unfold K_M_calls
          rw [in15, bd_s, if_pos cx, if_neg (by decide), in1, bd_s, if_pos cc, if_neg (by decide), isNoneM hW hMm.1, bd_s, if_neg w, if_pos rfl, nm_s, e12, l1, bd_s, stateNowM (by omega) hv (IM_keep hMm f1).1 w, bd_s, ep, show (16 : Int32) = nI 16 from rfl, nI_mul, nI_add, sA_nI (by omega) (by omega), nI_cl (by omega), nm_s, y1, bd_s]
          unfold K_M_calls_J98 K_M_calls_J158
          by_cases c9 : nI v0 = 99999999
          · rw [if_pos c9] at l2 ⊢
            rw [show loopN (fun z_ : Int32 × Int32 × Int32 × Hp => K_M_calls_L103 N c z_.1 z_.2.1 z_.2.2.1 z_.2.2.2) N (nI v0, -1, 1, hset g1 109 (16 * eM (sR a) (mo (sR a) (sB a)) + p0) 0) = _ from l2, bd_s]
          · rw [if_neg c9] at l2 ⊢
            rw [show loopN (fun z_ : Int32 × Int32 × Int32 × Hp => K_M_calls_L103 N c z_.1 z_.2.1 z_.2.2.1 z_.2.2.2) N (nI v0, 0, 1, hset g1 109 (16 * eM (sR a) (mo (sR a) (sB a)) + p0) 0) = _ from l2, bd_s]
        rw [kM]
        obtain ⟨n, n1, n2, n3⟩ := w3
        rcases z3 with ⟨C, T, r1, r2, r3, r4, r5, r6⟩ | ⟨r1, r2, r3⟩
        · -- some
          rcases n3 with ⟨o1, o2, o3⟩ | ⟨o1, t, o2, o3, o4, o5, o6⟩
          · exfalso
            rcases n2 with z | z
            · exact o3 T C (by omega) r2
            · omega
          · have eC : b = C := by
              have a1 := r3 b t (by omega) o4
              by_cases cc2 : C < b
              · exfalso
                rcases n2 with z | z
                · exact o5 T C (by omega) cc2 r2
                · omega
              · omega
            subst eC
            have eT : t = T := by
              have a1 := r4 t (by omega) o4
              by_cases cc2 : T < t
              · exact absurd r2 (o6 T cc2)
              · omega
            subst eT
            rw [r5, r6, if_neg (show ¬ nI b = 99999999 from fun z => by have := (nI_eq_iff (b := 99999999) (by omega) (by omega)).mp z; omega)]
            by_cases c0 : c = 0
            · rw [if_pos c0, if_pos c0]
              exact ⟨_, g3, rfl, rfl, fin g3 w2⟩
            · rw [if_neg c0, if_neg c0]
              exact ⟨_, g3, rfl, by rw [o3], fin g3 w2⟩
        · rcases n3 with ⟨o1, o2, o3⟩ | ⟨o1, t, o2, o3, o4, o5, o6⟩
          · rw [if_pos (show nI b = 99999999 by rw [o1]; rfl), r2, r3, ite_self]
            exact ⟨_, g3, rfl, rfl, fin g3 w2⟩
          · exact absurd o4 (r1 b t (by omega))
    · refine ex (-1000000002) ?_ ?_
      · unfold K_C_calls
        rw [out15, bd_s, if_pos cx, if_pos rfl, out1, bd_s, if_neg cc, if_neg (by decide)]
      · unfold K_M_calls
        rw [in15, bd_s, if_pos cx, if_neg (by decide), in1, bd_s, if_neg cc, if_pos rfl]
  · refine ex (-1000000002) ?_ ?_
    · unfold K_C_calls
      rw [out15, bd_s, if_neg cx, if_neg (by decide)]
    · unfold K_M_calls
      rw [in15, bd_s, if_neg cx, if_pos rfl]

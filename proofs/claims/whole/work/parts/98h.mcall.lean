/-! calls: the reference's table, stroke by stroke -/
def mnN (f : Nat → Nat) : Nat → Nat
  | 0 => 99999999
  | i + 1 => if mnN f i ≤ f i then mnN f i else f i
theorem mnN_ok (f : Nat → Nat) : ∀ n, mnN f n ≤ 99999999 ∧ (∀ i, i < n → mnN f n ≤ f i) ∧ (mnN f n = 99999999 ∨ ∃ i, i < n ∧ mnN f n = f i)
  | 0 => ⟨Nat.le_refl _, fun i h => absurd h (Nat.not_lt_zero _), .inl rfl⟩
  | n + 1 => by
    obtain ⟨h1, h2, h3⟩ := mnN_ok f n
    show (if mnN f n ≤ f n then mnN f n else f n) ≤ 99999999 ∧ (∀ i, i < n + 1 → (if mnN f n ≤ f n then mnN f n else f n) ≤ f i) ∧ ((if mnN f n ≤ f n then mnN f n else f n) = 99999999 ∨ ∃ i, i < n + 1 ∧ (if mnN f n ≤ f n then mnN f n else f n) = f i)
    by_cases c : mnN f n ≤ f n
    · rw [if_pos c]
      refine ⟨h1, fun i hi => ?_, ?_⟩
      · by_cases d : i = n
        · rw [d]; exact c
        · exact h2 i (by omega)
      · rcases h3 with z | ⟨i, z1, z2⟩
        · exact .inl z
        · exact .inr ⟨i, by omega, z2⟩
    · rw [if_neg c]
      refine ⟨by omega, fun i hi => ?_, .inr ⟨n, by omega, rfl⟩⟩
      by_cases d : i = n
      · rw [d]; exact Nat.le_refl _
      · have := h2 i (by omega); omega
/-- the fewest calls by which m is come to after n strokes, p the latest pair -/
def KP (ρ : Rv) (m0 p0 n m p v : Nat) : Prop := (v = 99999999 ∧ ∀ c, ¬ Rc ρ m0 p0 n c m p) ∨ (v ≤ n ∧ Rc ρ m0 p0 n v m p ∧ ∀ c, c < v → ¬ Rc ρ m0 p0 n c m p)
theorem KP_le {ρ : Rv} {m0 p0 n m p v c : Nat} (h : KP ρ m0 p0 n m p v) (hR : Rc ρ m0 p0 n c m p) : v ≤ c := by
  rcases h with ⟨_, h⟩ | ⟨_, _, h⟩
  · exact absurd hR (h c)
  · by_cases d : v ≤ c
    · exact d
    · exact absurd hR (h c (by omega))
theorem KP_at {ρ : Rv} {m0 p0 n m p v : Nat} (h : KP ρ m0 p0 n m p v) (hv : v < 99999999) : v ≤ n ∧ Rc ρ m0 p0 n v m p := by
  rcases h with ⟨z, _⟩ | ⟨z, w, _⟩
  · omega
  · exact ⟨z, w⟩
theorem KP_b {ρ : Rv} {m0 p0 n m p v : Nat} (h : KP ρ m0 p0 n m p v) (hn : n ≤ 60) : v ≤ 99999999 := by
  rcases h with ⟨z, _⟩ | ⟨z, _⟩ <;> omega
/-- with one stroke more: what a moment and a pair give to the next -/
def ctV (V : Nat → Nat → Nat) (m p : Nat) : Nat := if 99999999 ≤ mnN (V m) 16 then 99999999 else if mnN (V m) 16 + 1 ≤ V m p then mnN (V m) 16 + 1 else V m p
def stp (ρ : Rv) (m0 p0 n c m p : Nat) : Prop := Rc ρ m0 p0 n c m p ∨ (1 ≤ c ∧ ∃ q, q < 16 ∧ Rc ρ m0 p0 n (c - 1) m q)
theorem ct_le {ρ : Rv} {m0 p0 n m p c : Nat} {V : Nat → Nat → Nat} (hn : n ≤ 60) (hV : ∀ p, p < 16 → KP ρ m0 p0 n m p (V m p)) (hp : p < 16) (h : stp ρ m0 p0 n c m p) : ctV V m p ≤ c := by
  obtain ⟨a1, a2, a3⟩ := mnN_ok (V m) 16
  unfold ctV
  generalize mnN (V m) 16 = L at a1 a2 a3 ⊢
  have cap : ∀ q, q < 16 → ∀ c, Rc ρ m0 p0 n c m q → L ≤ 60 := fun q hq c hR => by
    have b := KP_le (hV q hq) (Rc_cap n c m q hR)
    have := a2 q hq
    omega
  rcases h with h | ⟨h1, q, hq, h2⟩
  · have l := cap p hp c h
    have b := KP_le (hV p hp) h
    rw [if_neg (by omega)]
    split <;> omega
  · have l := cap q hq _ h2
    have b := KP_le (hV q hq) h2
    have b2 := a2 q hq
    rw [if_neg (by omega)]
    split <;> omega
theorem ct_at {ρ : Rv} {m0 p0 n m p : Nat} {V : Nat → Nat → Nat} (hn : n ≤ 60) (hV : ∀ p, p < 16 → KP ρ m0 p0 n m p (V m p)) (hp : p < 16) (h : ctV V m p < 99999999) : ctV V m p ≤ n + 1 ∧ stp ρ m0 p0 n (ctV V m p) m p := by
  obtain ⟨a1, a2, a3⟩ := mnN_ok (V m) 16
  unfold ctV at h ⊢
  generalize mnN (V m) 16 = L at a1 a2 a3 h ⊢
  by_cases c1 : 99999999 ≤ L
  · rw [if_pos c1] at h; omega
  · rw [if_neg c1] at h ⊢
    by_cases c2 : L + 1 ≤ V m p
    · rw [if_pos c2] at h ⊢
      rcases a3 with z | ⟨q, hq, z⟩
      · omega
      · obtain ⟨b1, b2⟩ := KP_at (hV q hq) (by omega)
        rw [← z] at b1 b2
        exact ⟨by omega, .inr ⟨by omega, q, hq, by rw [show L + 1 - 1 = L by omega]; exact b2⟩⟩
    · rw [if_neg c2] at h ⊢
      obtain ⟨b1, b2⟩ := KP_at (hV p hp) h
      exact ⟨by omega, .inl b2⟩
theorem ct_b {V : Nat → Nat → Nat} {m p : Nat} : ctV V m p ≤ 99999999 := by
  obtain ⟨a1, a2, a3⟩ := mnN_ok (V m) 16
  unfold ctV
  generalize mnN (V m) 16 = L at a1 a2 a3 ⊢
  split
  · exact Nat.le_refl _
  · split <;> omega
/-- the reference's numbers of calls: at all moments that can be, and at none else -/
def VT (ρ : Rv) (r : Nat) (V : Nat → Nat → Nat) (g : Hp) : Prop := (∀ m p, okM ρ m → p < 16 → g r (16 * eM ρ m + p) = nI (V m p)) ∧ ∀ s p, s < rW ρ * rH ρ * 8 * tmv ρ → ¬ okM ρ (dE ρ s) → p < 16 → g r (16 * s + p) = nI 99999999
theorem VT_of {ρ : Rv} {r : Nat} {V : Nat → Nat → Nat} {g g' : Hp} (e : g' r = g r) (h : VT ρ r V g) : VT ρ r V g' := by unfold VT at h ⊢; rw [e]; exact h
theorem fillM {a : St} {h g : Hp} (hW : WF (sR a)) (N : Nat) (hN : 60000 < N) (hM : IM a h) (hg : sameM h g) {r : Nat} (hr : r ∈ ([108, 109, 110, 111, 113] : List Nat)) (body : Int32 × Hp → Option ((Int32 × Hp) ⊕ Hp))
    (hb : ∀ i g1, sameM h g1 → i < 16 * (rW (sR a) * rH (sR a) * 8 * tmv (sR a)) → body (nI i, g1) = some (.inl (nI (i + 1), hset g1 r i 99999999)))
    (he : ∀ g1, sameM h g1 → body (nI (16 * (rW (sR a) * rH (sR a) * 8 * tmv (sR a))), g1) = some (.inr g1)) :
    ∃ g', loopN body N (0, g) = some g' ∧ sameM h g' ∧ (∀ q, q ≠ r → g' q = g q) ∧ ∀ i, i < 16 * (rW (sR a) * rH (sR a) * 8 * tmv (sR a)) → g' r i = nI 99999999 := by
  have sb := states_b hW
  obtain ⟨t, l1, l2⟩ := loopN_fx body (fun i s => ∃ g1, s = (nI i, g1) ∧ sameM h g1 ∧ (∀ q, q ≠ r → g1 q = g q) ∧ ∀ x, x < i → g1 r x = nI 99999999) (16 * (rW (sR a) * rH (sR a) * 8 * tmv (sR a))) (fun t => sameM h t ∧ (∀ q, q ≠ r → t q = g q) ∧ ∀ i, i < 16 * (rW (sR a) * rH (sR a) * 8 * tmv (sR a)) → t r i = nI 99999999) (fun i s hi hJ => by
      obtain ⟨g1, e, f1, f2, f3⟩ := hJ
      subst e
      refine ⟨_, hb i g1 f1 hi, _, rfl, sameM_111 f1 hr _, fun q hq => (hset_ne _ _ _ hq).trans (f2 q hq), fun x hx => ?_⟩
      rw [hset_at]
      by_cases c : x = i
      · rw [c, upd_at]; rfl
      · rw [upd_ne _ _ c]; exact f3 x (by omega)) (fun s hJ => by
      obtain ⟨g1, e, f1, f2, f3⟩ := hJ
      subst e
      exact ⟨g1, he g1 f1, f1, f2, f3⟩) (s0 := (0, g)) ⟨g, rfl, hg, fun _ _ => rfl, fun x hx => absurd hx (Nat.not_lt_zero _)⟩ (N := N) (by omega)
  exact ⟨t, l1, l2⟩
/-- what the moments below s, and the pairs below q of s, have given -/
def pr2 (ρ : Rv) (s q m p : Nat) : Prop := eM ρ m < s ∨ (eM ρ m = s ∧ p < q)
def UT (ρ : Rv) (V : Nat → Nat → Nat) (s q : Nat) (U : Nat → Nat → Nat) : Prop := ∀ m' p, okM ρ m' → p < 16 → U m' p ≤ 99999999 ∧ (U m' p = 99999999 ∨ ∃ m, okM ρ m ∧ aft ρ 0 m p = m' ∧ U m' p = ctV V m p) ∧ ∀ m, okM ρ m → pr2 ρ s q m p → aft ρ 0 m p = m' → U m' p ≤ ctV V m p
theorem callOnM {a : St} {h g : Hp} (hW : WF (sR a)) (w : rW (sR a) ≠ 0) (N : Nat) (hN : 60000 < N) (hM : IM a h) (hg : sameM h g) {m0 p0 n : Nat} (hm0 : okM (sR a) m0) (hn : n ≤ 60) {V : Nat → Nat → Nat} (hV : VT (sR a) 109 V g) (hK : ∀ m p, okM (sR a) m → p < 16 → KP (sR a) m0 p0 n m p (V m p)) :
    ∃ g' U, K_M_callOn N g = some g' ∧ sameM h g' ∧ VT (sR a) 109 U g' ∧ ∀ m p, okM (sR a) m → p < 16 → KP (sR a) m0 p0 (n + 1) m p (U m p) := by
  have sb := states_b hW
  have tb := tmv_b hW
  have st : ∀ g1, sameM h g1 → K_M_states g1 = some (nI (rW (sR a) * rH (sR a) * 8 * tmv (sR a))) := fun g1 e => statesM hW hM e
  have elt : ∀ m, okM (sR a) m → eM (sR a) m < rW (sR a) * rH (sR a) * 8 * tmv (sR a) := fun m hm => eM_lt hW hm
  have dec := fun s (hs : s < rW (sR a) * rH (sR a) * 8 * tmv (sR a)) => dE_ok hW w hs
  have einj : ∀ m s, okM (sR a) m → s < rW (sR a) * rH (sR a) * 8 * tmv (sR a) → eM (sR a) m = s → m = dE (sR a) s := fun m s hm hs e => eM_inj2 hW hm.1 (okS_in hW hm.2) (dec s hs).1 (dec s hs).2.1 (e.trans (dec s hs).2.2.1.symm)
  generalize hS : rW (sR a) * rH (sR a) * 8 * tmv (sR a) = S at *
  -- all is far off at first
  obtain ⟨g1, l1, f1, f2, f3⟩ := fillM hW N hN hM hg (r := 110) (by decide) (fun z_ : Int32 × Hp => K_M_callOn_L2 N z_.1 z_.2) (fun i g1 e hi => by
      rw [hS] at hi
      show K_M_callOn_L2 N (nI i) g1 = _
      unfold K_M_callOn_L2
      rw [st g1 e, bd_s, show (16 : Int32) = nI 16 from rfl, nI_mul, if_neg (fun q => by have := (nI_le_iff (by omega) (by omega)).mp q; omega), sA_nI (by omega) (by omega), nI_cl (by omega), nm_s, show nI i + 1 = nI (i + 1) from nI_add i 1, nm_s]) (fun g1 e => by
      rw [hS]
      show K_M_callOn_L2 N (nI (16 * S)) g1 = _
      unfold K_M_callOn_L2
      rw [st g1 e, bd_s, show (16 : Int32) = nI 16 from rfl, nI_mul, if_pos ((nI_le_iff (by omega) (by omega)).mpr (Nat.le_refl _))])
  rw [hS] at f3
  -- each moment gives
  obtain ⟨t2, l2, U, f4, f5, f6, f7, f8⟩ := loopN_fx (fun z_ : Int32 × Hp => K_M_callOn_L29 N z_.1 z_.2) (fun s z => ∃ g2 U, z = (nI s, g2) ∧ sameM h g2 ∧ VT (sR a) 109 V g2 ∧ (∀ m p, okM (sR a) m → p < 16 → g2 110 (16 * eM (sR a) m + p) = nI (U m p)) ∧ (∀ s p, s < S → ¬ okM (sR a) (dE (sR a) s) → p < 16 → g2 110 (16 * s + p) = nI 99999999) ∧ UT (sR a) V s 0 U) S (fun t => ∃ U, sameM h t ∧ VT (sR a) 109 V t ∧ (∀ m p, okM (sR a) m → p < 16 → t 110 (16 * eM (sR a) m + p) = nI (U m p)) ∧ (∀ s p, s < S → ¬ okM (sR a) (dE (sR a) s) → p < 16 → t 110 (16 * s + p) = nI 99999999) ∧ UT (sR a) V S 0 U) (fun s z hs hJ => by
      obtain ⟨g2, U, e, f4, f5, f6, f7, f8⟩ := hJ
      subst e
      have d := dec s hs
      -- the least of it
      have least : ∀ f : Nat → Nat, (∀ p, p < 16 → g2 109 (16 * s + p) = nI (f p) ∧ f p ≤ 99999999) → loopN (fun z_ : Int32 × Int32 => K_M_callOn_L42 N (nI s) z_.1 z_.2 g2) N (99999999, 0) = some (nI (mnN f 16)) := by
        intro f hf
        refine loopN_for _ (fun p => (nI (mnN f p), nI p)) 16 _ (fun p hp => ?_) ?_ (by omega)
        · show K_M_callOn_L42 N (nI s) (nI (mnN f p)) (nI p) g2 = _
          have mb := (mnN_ok f p).1
          obtain ⟨v1, v2⟩ := hf p hp
          unfold K_M_callOn_L42 K_M_callOn_J78
          rw [if_neg (show ¬ (16 : Int32) ≤ nI p from fun q => by have := (nI_le_iff (a := 16) (by omega) (by omega)).mp q; omega), show (16 : Int32) = nI 16 from rfl, nI_mul, nI_add, gA_nI (by omega) (by omega), gA_nI (by omega) (by omega), v1, show nI p + 1 = nI (p + 1) from nI_add p 1, nm_s, nm_s]
          show _ = (some (.inl (nI (if mnN f p ≤ f p then mnN f p else f p), nI (p + 1))) : Option ((Int32 × Int32) ⊕ Int32))
          by_cases c : mnN f p ≤ f p
          · rw [if_pos ((nI_le_iff (by omega) (by omega)).mpr c), if_pos c]
          · rw [if_neg (fun q => c ((nI_le_iff (by omega) (by omega)).mp q)), if_neg c]
        · show K_M_callOn_L42 N (nI s) (nI (mnN f 16)) (nI 16) g2 = _
          unfold K_M_callOn_L42
          rw [if_pos (by decide)]
      show ∃ s', K_M_callOn_L29 N (nI s) g2 = some (.inl s') ∧ _
      unfold K_M_callOn_L29
      rw [st g2 f4, bd_s, if_neg (fun q => by have := (nI_le_iff (by omega) (by omega)).mp q; omega), show nI s + 1 = nI (s + 1) from nI_add s 1]
      by_cases om : okM (sR a) (dE (sR a) s)
      · have es : eM (sR a) (dE (sR a) s) = s := d.2.2.1
        have hv : ∀ p, p < 16 → g2 109 (16 * s + p) = nI (V (dE (sR a) s) p) ∧ V (dE (sR a) s) p ≤ 99999999 := fun p hp => by
          have := f5.1 _ p om hp
          rw [es] at this
          exact ⟨this, KP_b (hK _ p om hp) hn⟩
        rw [least _ hv, bd_s]
        have mok := mnN_ok (V (dE (sR a) s)) 16
        have ctE : ∀ p, ctV V (dE (sR a) s) p = if 99999999 ≤ mnN (V (dE (sR a) s)) 16 then 99999999 else if mnN (V (dE (sR a) s)) 16 + 1 ≤ V (dE (sR a) s) p then mnN (V (dE (sR a) s)) 16 + 1 else V (dE (sR a) s) p := fun p => rfl
        generalize mnN (V (dE (sR a) s)) 16 = L at mok ctE ⊢
        obtain ⟨t3, l3, U3, y1, y2, y3, y4, y5⟩ := loopN_inv (fun z_ : Int32 × Hp => K_M_callOn_L87 N (nI s) (nI (L)) z_.1 z_.2) (fun z => ∃ p g2 U, z = (nI p, g2) ∧ p ≤ 16 ∧ sameM h g2 ∧ VT (sR a) 109 V g2 ∧ (∀ m p, okM (sR a) m → p < 16 → g2 110 (16 * eM (sR a) m + p) = nI (U m p)) ∧ (∀ s p, s < S → ¬ okM (sR a) (dE (sR a) s) → p < 16 → g2 110 (16 * s + p) = nI 99999999) ∧ UT (sR a) V s p U) (fun z => 17 - z.1.toNatClampNeg) (fun t => ∃ U, sameM h t ∧ VT (sR a) 109 V t ∧ (∀ m p, okM (sR a) m → p < 16 → t 110 (16 * eM (sR a) m + p) = nI (U m p)) ∧ (∀ s p, s < S → ¬ okM (sR a) (dE (sR a) s) → p < 16 → t 110 (16 * s + p) = nI 99999999) ∧ UT (sR a) V s 16 U) (fun z hI => by
            obtain ⟨p, g3, U, e, f0, f4, f5, f6, f7, f8⟩ := hI
            subst e
            have hv : p < 16 → g3 109 (16 * s + p) = nI (V (dE (sR a) s) p) ∧ V (dE (sR a) s) p ≤ 99999999 := fun hp => by
              have := f5.1 _ p om hp
              rw [es] at this
              exact ⟨this, KP_b (hK _ p om hp) hn⟩
            show (∃ s', K_M_callOn_L87 N (nI s) (nI (L)) (nI p) g3 = some (.inl s') ∧ _) ∨ (∃ t, K_M_callOn_L87 N (nI s) (nI (L)) (nI p) g3 = some (.inr t) ∧ _)
            unfold K_M_callOn_L87
            by_cases c1 : 16 ≤ p
            · right
              have e16 : p = 16 := by omega
              subst e16
              exact ⟨g3, by rw [if_pos (by decide)], U, f4, f5, f6, f7, f8⟩
            · rw [if_neg (show ¬ (16 : Int32) ≤ nI p from fun q => c1 ((nI_le_iff (a := 16) (by omega) (by omega)).mp q))]
              by_cases c2 : 99999999 ≤ L
              · right
                refine ⟨g3, by rw [if_pos (show (99999999 : Int32) ≤ nI (L) from (nI_le_iff (a := 99999999) (by omega) (by omega)).mpr c2)], U, f4, f5, f6, f7, fun m' p' hm' hp' => ?_⟩
                obtain ⟨u1, u2, u3⟩ := f8 m' p' hm' hp'
                refine ⟨u1, u2, fun m hm hpr he => ?_⟩
                rcases hpr with z | ⟨z, _⟩
                · exact u3 m hm (.inl z) he
                · have em := einj m s hm hs z
                  have : ctV V m p' = 99999999 := by rw [em, ctE p', if_pos c2]
                  rw [this]; exact u1
              · left
                obtain ⟨v1, v2⟩ := hv (by omega)
                have hp : p < 16 := by omega
                have oy := aft_ok hW (kn := 0) (p := p) om
                obtain ⟨g4, z1, z2, z3⟩ := stepM hW N (by omega) hM f4 om hp
                have ely := elt _ oy
                have v110 : g4 110 (16 * eM (sR a) (aft (sR a) 0 (dE (sR a) s) p) + p) = nI (U (aft (sR a) 0 (dE (sR a) s) p) p) := by rw [z3 110 (by decide)]; exact f6 _ p oy hp
                obtain ⟨u1, u2, u3⟩ := f8 _ p oy hp
                have cb : ctV V (dE (sR a) s) p ≤ 99999999 := ct_b
                rw [es] at z1
                -- the new value at the place
                have new : ∀ y, y = (if U (aft (sR a) 0 (dE (sR a) s) p) p ≤ ctV V (dE (sR a) s) p then U (aft (sR a) 0 (dE (sR a) s) p) p else ctV V (dE (sR a) s) p) → ∃ s', (nm (nI p + 1) (fun v184 => some (.inl (v184, hset g4 110 (16 * eM (sR a) (aft (sR a) 0 (dE (sR a) s) p) + p) (nI y)))) : Option ((Int32 × Hp) ⊕ Hp)) = some (.inl s') ∧ (∃ p g2 U, s' = (nI p, g2) ∧ p ≤ 16 ∧ sameM h g2 ∧ VT (sR a) 109 V g2 ∧ (∀ m p, okM (sR a) m → p < 16 → g2 110 (16 * eM (sR a) m + p) = nI (U m p)) ∧ (∀ s p, s < S → ¬ okM (sR a) (dE (sR a) s) → p < 16 → g2 110 (16 * s + p) = nI 99999999) ∧ UT (sR a) V s p U) ∧ 17 - s'.1.toNatClampNeg < 17 - (nI p).toNatClampNeg := by
                  intro y ey
                  rw [show nI p + 1 = nI (p + 1) from nI_add p 1, nm_s]
                  refine ⟨_, rfl, ⟨p + 1, _, (fun m q => if m = aft (sR a) 0 (dE (sR a) s) p ∧ q = p then y else U m q), rfl, by omega, sameM_111 z2 (by decide) _, VT_of ((hset_ne _ _ _ (by decide)).trans (z3 109 (by decide))) f5, fun m q hm hq => ?_, fun s' q hs' hno hq => ?_, fun m' q hm' hq => ?_⟩, ?_⟩
                  · show _ = nI (if m = aft (sR a) 0 (dE (sR a) s) p ∧ q = p then y else U m q)
                    rw [hset_at]
                    by_cases c : m = aft (sR a) 0 (dE (sR a) s) p ∧ q = p
                    · rw [if_pos c, c.1, c.2, upd_at]
                    · rw [if_neg c, upd_ne _ _ (fun ee => c (by
                        have e1 : eM (sR a) m = eM (sR a) (aft (sR a) 0 (dE (sR a) s) p) := by omega
                        exact ⟨eM_inj hW hm oy e1, by omega⟩)), z3 110 (by decide)]
                      exact f6 m q hm hq
                  · rw [hset_at, upd_ne _ _ (fun ee => hno (by
                      have e1 : eM (sR a) (aft (sR a) 0 (dE (sR a) s) p) = s' := by omega
                      have := einj _ s' oy hs' e1
                      rw [← this]; exact oy)), z3 110 (by decide)]
                    exact f7 s' q hs' hno hq
                  · show (if m' = aft (sR a) 0 (dE (sR a) s) p ∧ q = p then y else U m' q) ≤ 99999999 ∧ ((if m' = aft (sR a) 0 (dE (sR a) s) p ∧ q = p then y else U m' q) = 99999999 ∨ ∃ m, okM (sR a) m ∧ aft (sR a) 0 m q = m' ∧ (if m' = aft (sR a) 0 (dE (sR a) s) p ∧ q = p then y else U m' q) = ctV V m q) ∧ ∀ m, okM (sR a) m → pr2 (sR a) s (p + 1) m q → aft (sR a) 0 m q = m' → (if m' = aft (sR a) 0 (dE (sR a) s) p ∧ q = p then y else U m' q) ≤ ctV V m q
                    obtain ⟨k1, k2, k3⟩ := f8 m' q hm' hq
                    by_cases c : m' = aft (sR a) 0 (dE (sR a) s) p ∧ q = p
                    · obtain ⟨cm, cq⟩ := c
                      subst cq
                      subst cm
                      rw [if_pos ⟨rfl, rfl⟩, ey]
                      by_cases c5 : U (aft (sR a) 0 (dE (sR a) s) q) q ≤ ctV V (dE (sR a) s) q
                      · rw [if_pos c5]
                        refine ⟨k1, k2, fun m hm hpr he => ?_⟩
                        rcases hpr with z | ⟨z, z2⟩
                        · exact k3 m hm (.inl z) he
                        · rw [einj m s hm hs z]; exact c5
                      · rw [if_neg c5]
                        refine ⟨cb, .inr ⟨_, om, rfl, rfl⟩, fun m hm hpr he => ?_⟩
                        rcases hpr with z | ⟨z, z2⟩
                        · have := k3 m hm (.inl z) he; omega
                        · rw [einj m s hm hs z]; exact Nat.le_refl _
                    · rw [if_neg c]
                      refine ⟨k1, k2, fun m hm hpr he => ?_⟩
                      rcases hpr with z | ⟨z, z2⟩
                      · exact k3 m hm (.inl z) he
                      · by_cases c6 : q = p
                        · exfalso
                          refine c ⟨?_, c6⟩
                          rw [← he, einj m s hm hs z, c6]
                        · exact k3 m hm (.inr ⟨z, by omega⟩) he
                  · show 17 - (nI (p + 1)).toNatClampNeg < 17 - (nI p).toNatClampNeg
                    rw [nI_cl (by omega), nI_cl (by omega)]
                    omega
                have j133 : ∀ y0, y0 = ctV V (dE (sR a) s) p → ∃ s', K_M_callOn_J133 N (nI s) (nI (L)) (nI p) (nI y0) g3 = some (.inl s') ∧ (∃ p g2 U, s' = (nI p, g2) ∧ p ≤ 16 ∧ sameM h g2 ∧ VT (sR a) 109 V g2 ∧ (∀ m p, okM (sR a) m → p < 16 → g2 110 (16 * eM (sR a) m + p) = nI (U m p)) ∧ (∀ s p, s < S → ¬ okM (sR a) (dE (sR a) s) → p < 16 → g2 110 (16 * s + p) = nI 99999999) ∧ UT (sR a) V s p U) ∧ 17 - s'.1.toNatClampNeg < 17 - (nI p).toNatClampNeg := by
                  intro y0 ey0
                  rw [ey0]
                  unfold K_M_callOn_J133 K_M_callOn_J183
                  rw [show (4 : Int32) = nI 4 from rfl, nI_div (by omega) (by omega) (by omega), nI_rem (by omega) (by omega) (by omega), z1, bd2_s, show (16 : Int32) = nI 16 from rfl, nI_mul, nI_add, nm_s, gA_nI (by omega) (by omega), gA_nI (by omega) (by omega), v110, sA_nI (by omega) (by omega), sA_nI (by omega) (by omega), nI_cl (by omega), nm_s, nm_s]
                  by_cases c5 : U (aft (sR a) 0 (dE (sR a) s) p) p ≤ ctV V (dE (sR a) s) p
                  · rw [if_pos ((nI_le_iff (by omega) (by omega)).mpr c5)]
                    exact new _ (by rw [if_pos c5])
                  · rw [if_neg (fun q => c5 ((nI_le_iff (by omega) (by omega)).mp q))]
                    exact new _ (by rw [if_neg c5])
                rw [if_neg (show ¬ (99999999 : Int32) ≤ nI (L) from fun q => c2 ((nI_le_iff (a := 99999999) (by omega) (by omega)).mp q)), show (16 : Int32) = nI 16 from rfl, nI_mul, nI_add, gA_nI (by omega) (by omega), gA_nI (by omega) (by omega), v1, show nI (L) + 1 = nI (L + 1) from nI_add _ 1]
                by_cases c3 : L + 1 ≤ V (dE (sR a) s) p
                · rw [if_pos ((nI_le_iff (by omega) (by omega)).mpr c3)]
                  exact j133 _ (by rw [ctE p, if_neg c2, if_pos c3])
                · rw [if_neg (fun q => c3 ((nI_le_iff (by omega) (by omega)).mp q))]
                  exact j133 _ (by rw [ctE p, if_neg c2, if_neg c3])) N (nI 0, g2) ⟨0, g2, U, rfl, by omega, f4, f5, f6, f7, f8⟩ (by show 17 - _ < N; omega)
        rw [show loopN (fun z_ : Int32 × Hp => K_M_callOn_L87 N (nI s) (nI (L)) z_.1 z_.2) N (0, g2) = some t3 from l3, bd_s, nm_s]
        refine ⟨_, rfl, t3, U3, rfl, y1, y2, y3, y4, fun m' p hm' hp => ?_⟩
        obtain ⟨u1, u2, u3⟩ := y5 m' p hm' hp
        refine ⟨u1, u2, fun m hm hpr he => u3 m hm ?_ he⟩
        rcases hpr with z | ⟨_, z⟩
        · by_cases c : eM (sR a) m = s
          · exact .inr ⟨c, hp⟩
          · exact .inl (by omega)
        · omega
      · have hv : ∀ p, p < 16 → g2 109 (16 * s + p) = nI 99999999 ∧ 99999999 ≤ 99999999 := fun p hp => ⟨f5.2 s p (by rw [hS]; exact hs) om hp, Nat.le_refl _⟩
        have ln := least (fun _ => 99999999) hv
        have e9 : mnN (fun _ => 99999999) 16 = 99999999 := by
          obtain ⟨z1, z2, z3⟩ := mnN_ok (fun _ => 99999999) 16
          rcases z3 with z | ⟨_, _, z⟩ <;> exact z
        rw [ln, bd_s, e9]
        have l3 : loopN (fun z_ : Int32 × Hp => K_M_callOn_L87 N (nI s) (nI 99999999) z_.1 z_.2) N (0, g2) = some g2 := by
          obtain ⟨n', rfl⟩ : ∃ n', N = n' + 1 := ⟨N - 1, by omega⟩
          refine loopN_t n' ?_
          show K_M_callOn_L87 (n' + 1) (nI s) (nI 99999999) (nI 0) g2 = _
          unfold K_M_callOn_L87
          rw [if_neg (by decide), if_pos (by decide)]
        rw [l3, bd_s, nm_s]
        refine ⟨_, rfl, g2, U, rfl, f4, f5, f6, f7, fun m' p hm' hp => ?_⟩
        obtain ⟨u1, u2, u3⟩ := f8 m' p hm' hp
        refine ⟨u1, u2, fun m hm hpr he => u3 m hm ?_ he⟩
        rcases hpr with z | ⟨_, z⟩
        · by_cases c : eM (sR a) m = s
          · exfalso
            have := einj m s hm hs c
            rw [this] at hm
            exact om hm
          · exact .inl (by omega)
        · omega) (fun s hJ => by
      obtain ⟨g2, U, e, f4, f5, f6, f7, f8⟩ := hJ
      subst e
      refine ⟨g2, ?_, U, f4, f5, f6, f7, f8⟩
      show K_M_callOn_L29 N (nI S) g2 = _
      unfold K_M_callOn_L29
      rw [st g2 f4, bd_s, if_pos ((nI_le_iff (by omega) (by omega)).mpr (Nat.le_refl _))]) (s0 := (0, g1)) ⟨g1, fun _ _ => 99999999, rfl, f1, VT_of (f2 109 (by decide)) hV, fun m p hm hp => f3 _ (by have := elt m hm; omega), fun s p hs _ hp => f3 _ (by omega), fun m' p _ _ => ⟨Nat.le_refl _, .inl rfl, fun m _ hpr _ => by rcases hpr with z | ⟨_, z⟩ <;> omega⟩⟩ (N := N) (by omega)
  -- and is written back
  obtain ⟨t3, l3, f9, f10⟩ := loopN_fx (fun z_ : Int32 × Hp => K_M_callOn_L198 N z_.1 z_.2) (fun i z => ∃ g3, z = (nI i, g3) ∧ sameM h g3 ∧ g3 110 = t2 110 ∧ ∀ x, x < i → g3 109 x = t2 110 x) (16 * S) (fun t => sameM h t ∧ ∀ x, x < 16 * S → t 109 x = t2 110 x) (fun i z hi hJ => by
      obtain ⟨g3, e, y1, y2, y3⟩ := hJ
      subst e
      refine ⟨(nI (i + 1), hset g3 109 i (t2 110 i)), ?_, _, rfl, sameM_111 y1 (by decide) _, (hset_ne _ _ _ (by decide)).trans y2, fun x hx => ?_⟩
      · show K_M_callOn_L198 N (nI i) g3 = _
        unfold K_M_callOn_L198
        rw [st g3 y1, bd_s, show (16 : Int32) = nI 16 from rfl, nI_mul, if_neg (fun q => by have := (nI_le_iff (by omega) (by omega)).mp q; omega), gA_nI (by omega) (by omega), sA_nI (by omega) (by omega), nI_cl (by omega), y2, nm_s, show nI i + 1 = nI (i + 1) from nI_add i 1, nm_s]
      · rw [hset_at]
        by_cases c : x = i
        · rw [c, upd_at]
        · rw [upd_ne _ _ c]; exact y3 x (by omega)) (fun z hJ => by
      obtain ⟨g3, e, y1, y2, y3⟩ := hJ
      subst e
      refine ⟨g3, ?_, y1, y3⟩
      show K_M_callOn_L198 N (nI (16 * S)) g3 = _
      unfold K_M_callOn_L198
      rw [st g3 y1, bd_s, show (16 : Int32) = nI 16 from rfl, nI_mul, if_pos ((nI_le_iff (by omega) (by omega)).mpr (Nat.le_refl _))]) (s0 := (0, t2)) ⟨t2, rfl, f4, rfl, fun x hx => absurd hx (Nat.not_lt_zero _)⟩ (N := N) (by omega)
  refine ⟨t3, U, ?_, f9, ⟨fun m p hm hp => by rw [f10 _ (by have := elt m hm; omega)]; exact f6 m p hm hp, fun s p hs hno hp => by rw [hS] at hs; rw [f10 _ (by omega)]; exact f7 s p hs hno hp⟩, fun m' p hm' hp => ?_⟩
  · unfold K_M_callOn
    rw [l1, bd_s, l2, bd_s, l3, bd_s]
  · obtain ⟨u1, u2, u3⟩ := f8 m' p hm' hp
    have all : ∀ c, Rc (sR a) m0 p0 (n + 1) c m' p → U m' p ≤ c := fun c hR => by
      obtain ⟨m, e1, e2⟩ := hR
      have om : okM (sR a) m := by
        rcases e2 with z | ⟨_, q, _, z⟩
        · exact Rc_ok hW hm0 _ _ _ _ z
        · exact Rc_ok hW hm0 _ _ _ _ z
      have a1 := u3 m om (.inl (elt m om)) e1
      have a2 := ct_le hn (fun p hp => hK m p om hp) hp e2
      omega
    by_cases c9 : U m' p = 99999999
    · left
      refine ⟨c9, fun c hR => ?_⟩
      have b1 := all _ (Rc_cap _ _ _ _ hR)
      omega
    · right
      rcases u2 with z | ⟨m, om, e1, e2⟩
      · exact absurd z c9
      · obtain ⟨b1, b2⟩ := ct_at hn (fun p hp => hK m p om hp) hp (by omega : ctV V m p < 99999999)
        rw [← e2] at b1 b2
        exact ⟨b1, ⟨m, e1, b2⟩, fun c hc hR => by have := all c hR; omega⟩

/-! sets of bits; who gave up -/
def hbb (a b c d : Bool) : Nat := (if a = true then 1 else 0) + (if b = true then 2 else 0) + (if c = true then 4 else 0) + (if d = true then 8 else 0)
theorem hb_clr : ∀ (a b c d : Bool) (k : Nat), k < 4 → nI (hbb a b c d) &&& ((1 <<< (nI k &&& 31)) ^^^ (-1)) = nI (hbb (a && !decide (0 = k)) (b && !decide (1 = k)) (c && !decide (2 = k)) (d && !decide (3 = k))) := by decide +kernel
theorem hb_self : ∀ (a b c d : Bool), nI (hbb a b c d) &&& nI (hbb a b c d) = nI (hbb a b c d) := by decide +kernel
theorem hb_init : ∀ L, L ≤ 4 → ((1 <<< (nI L &&& 31)) - 1 : Int32) = nI (hbb (decide (0 < L)) (decide (1 < L)) (decide (2 < L)) (decide (3 < L))) := by decide +kernel
def HB (v : Int32) (Q : Nat → Prop) : Prop := ∃ H : Nat → Bool, v = nI (hbb (H 0) (H 1) (H 2) (H 3)) ∧ ∀ j, j < 4 → (H j = true ↔ Q j)
theorem HB_self {v : Int32} {Q : Nat → Prop} (h : HB v Q) : v &&& v = v := by
  obtain ⟨H, e, -⟩ := h
  rw [e, hb_self]
theorem HB_clr {v : Int32} {Q : Nat → Prop} (h : HB v Q) {k : Nat} (hk : k < 4) : HB (v &&& ((1 <<< (nI k &&& 31)) ^^^ (-1))) (fun j => Q j ∧ j ≠ k) := by
  obtain ⟨H, e, q⟩ := h
  refine ⟨fun j => H j && !decide (j = k), by rw [e, hb_clr _ _ _ _ k hk], fun j hj => ?_⟩
  have := q j hj
  show (H j && !decide (j = k)) = true ↔ _
  rw [Bool.and_eq_true, this, Bool.not_eq_true', decide_eq_false_iff_not]
theorem HB_congr {v : Int32} {Q R : Nat → Prop} (h : HB v Q) (e : ∀ j, j < 4 → (Q j ↔ R j)) : HB v R := by
  obtain ⟨H, e1, q⟩ := h
  exact ⟨H, e1, fun j hj => (q j hj).trans (e j hj)⟩
theorem HB_eq {v v' : Int32} {Q R : Nat → Prop} (h : HB v Q) (h' : HB v' R) (e : ∀ j, j < 4 → (Q j ↔ R j)) : v = v' := by
  obtain ⟨H, e1, q⟩ := h
  obtain ⟨H', e2, q'⟩ := h'
  have k : ∀ j, j < 4 → H j = H' j := fun j hj => by
    have : H j = true ↔ H' j = true := (q j hj).trans ((e j hj).trans (q' j hj).symm)
    cases a : H j <;> cases b : H' j <;> simp [a, b] at this ⊢
  rw [e1, e2, k 0 (by decide), k 1 (by decide), k 2 (by decide), k 3 (by decide)]
theorem HB_init {L : Nat} (hL : L ≤ 4) : HB ((1 <<< (nI L &&& 31)) - 1) (fun j => j < L) := ⟨fun j => decide (j < L), hb_init L hL, fun j _ => decide_eq_true_iff⟩
def hc8 (a b c d e f g h : Bool) : Nat := hbb a b c d + 16 * hbb e f g h
theorem hc_or : ∀ (a b c d e f g h : Bool) (k : Nat), k < 8 → nI (hc8 a b c d e f g h) ||| (1 <<< (nI k &&& 31)) = nI (hc8 (a || decide (0 = k)) (b || decide (1 = k)) (c || decide (2 = k)) (d || decide (3 = k)) (e || decide (4 = k)) (f || decide (5 = k)) (g || decide (6 = k)) (h || decide (7 = k))) := by decide +kernel
theorem hc_test : ∀ (a b c d e f g h : Bool) (k : Nat), k < 8 → (nI (hc8 a b c d e f g h) >>> (nI k &&& 31)) &&& 1 = if ([a, b, c, d, e, f, g, h] : List Bool).getD k false = true then 1 else 0 := by decide +kernel
theorem hc_init : ∀ k, k < 8 → (1 <<< (nI k &&& 31) : Int32) = nI (hc8 (decide (0 = k)) (decide (1 = k)) (decide (2 = k)) (decide (3 = k)) (decide (4 = k)) (decide (5 = k)) (decide (6 = k)) (decide (7 = k))) := by decide +kernel
def S8 (v : Int32) (Q : Nat → Prop) : Prop := ∃ H : Nat → Bool, v = nI (hc8 (H 0) (H 1) (H 2) (H 3) (H 4) (H 5) (H 6) (H 7)) ∧ ∀ j, j < 8 → (H j = true ↔ Q j)
theorem S8_or {v : Int32} {Q : Nat → Prop} (h : S8 v Q) {k : Nat} (hk : k < 8) : S8 (v ||| (1 <<< (nI k &&& 31))) (fun j => Q j ∨ j = k) := by
  obtain ⟨H, e, q⟩ := h
  refine ⟨fun j => H j || decide (j = k), by rw [e, hc_or _ _ _ _ _ _ _ _ k hk], fun j hj => ?_⟩
  have := q j hj
  show (H j || decide (j = k)) = true ↔ _
  rw [Bool.or_eq_true, this, decide_eq_true_iff]
theorem S8_test {v : Int32} {Q : Nat → Prop} (h : S8 v Q) {k : Nat} (hk : k < 8) : (v >>> (nI k &&& 31)) &&& 1 = 0 ↔ ¬ Q k := by
  obtain ⟨H, e, q⟩ := h
  rw [e, hc_test _ _ _ _ _ _ _ _ k hk, ← q k hk]
  have : ([H 0, H 1, H 2, H 3, H 4, H 5, H 6, H 7] : List Bool).getD k false = H k := by
    rcases (by omega : k = 0 ∨ k = 1 ∨ k = 2 ∨ k = 3 ∨ k = 4 ∨ k = 5 ∨ k = 6 ∨ k = 7) with c | c | c | c | c | c | c | c <;> subst c <;> rfl
  rw [this]
  cases H k
  · exact ⟨fun _ => by decide, fun _ => rfl⟩
  · exact ⟨fun z => absurd z (by decide), fun z => absurd rfl z⟩
theorem S8_congr {v : Int32} {Q R : Nat → Prop} (h : S8 v Q) (e : ∀ j, j < 8 → (Q j ↔ R j)) : S8 v R := by
  obtain ⟨H, e1, q⟩ := h
  exact ⟨H, e1, fun j hj => (q j hj).trans (e j hj)⟩
theorem S8_init {k : Nat} (hk : k < 8) : S8 (1 <<< (nI k &&& 31)) (fun j => j = k) := ⟨fun j => decide (j = k), hc_init k hk, fun j _ => decide_eq_true_iff⟩
theorem S8_none : S8 0 (fun _ => False) := ⟨fun _ => false, rfl, fun j _ => ⟨fun z => absurd (show false = true from z) (by decide), fun z => absurd z (fun q => q)⟩⟩
/-- the stroke of one of the two -/
def st2 (w p : Nat) : Nat := if w = 0 then p / 4 else p % 4
theorem xN_mb {ρ : Rv} (hW : WF ρ) {ln : List Nat} (hl : lnk ρ ln) {m : Nat} (hm : m / 384 < tmv ρ) : ∀ k x, k ≤ ln.length → xN ρ ln m k x → x = mb ρ ln m k (x % 8)
  | 0, x, _, h => by
    have h : x = m := h
    subst h
    exact (mb_0 hm).symm
  | k + 1, x, hk, h => by
    obtain ⟨x0, p, h1, h2, h3, h4, h5⟩ := h
    have ih := xN_mb hW hl hm k x0 (by omega) h1
    have h3 : x = aft ρ 0 x0 p := h3
    rw [h3, ih] at h4
    rw [h3, ih]
    exact mb_next hW hl hk (Nat.mod_lt _ (by decide)) h4
/-- at the stroke k: a heading and a pair that go on -/
def gC (ρ : Rv) (ln : List Nat) (m k i : Nat) : Prop := xN ρ ln m k (mb ρ ln m k (i / 16)) ∧ aft ρ 0 (mb ρ ln m k (i / 16)) (i % 16) % 384 / 8 = ln.getD k 0 ∧ 0 < wN ρ (ln.drop (k + 1)) (aft ρ 0 (mb ρ ln m k (i / 16)) (i % 16))
/-- one held at each stroke up to k -/
def oQ (ρ : Rv) (ln : List Nat) (m who k j : Nat) : Prop := j < ln.length ∧ (j < k → ∀ p, dN ρ j ln m p → st2 who p = 3)
theorem gC_dN {ρ : Rv} (hW : WF ρ) {ln : List Nat} (hl : lnk ρ ln) {m : Nat} (hm : m / 384 < tmv ρ) {k p : Nat} (hk : k < ln.length) : dN ρ k ln m p ↔ ∃ i, i < 128 ∧ gC ρ ln m k i ∧ i % 16 = p := by
  rw [dN_x ln k m p hl.1 hk]
  constructor
  · rintro ⟨x, h1, h2, h3, h4⟩
    have e := xN_mb hW hl hm k x (by omega) h1
    have r := Nat.mod_lt x (by decide : 0 < 8)
    refine ⟨16 * (x % 8) + p, by omega, ?_, by omega⟩
    unfold gC
    rw [show (16 * (x % 8) + p) / 16 = x % 8 by omega, show (16 * (x % 8) + p) % 16 = p by omega, ← e]
    exact ⟨h1, h3, h4⟩
  · rintro ⟨i, h1, ⟨h2, h3, h4⟩, h5⟩
    rw [h5] at h3 h4
    exact ⟨_, h2, by omega, h3, h4⟩
theorem heldK {k0 : Nat} {a : St} {h : Hp} (hv : VS k0 a) (N : Nat) (hN : 200 < N) (hR : cR (sR a) h) (hcN : cN (sN a) h) (hT : yT (sR a) (sN a) (mo (sR a) (sB a)) 0 h) {who : Nat} (hw : who ≤ 1) : ∃ v, K_Lines_heldAlways N (nI who) (nI (mo (sR a) (sB a))) h = some v ∧ ((wN (sR a) (sN a) (mo (sR a) (sB a)) = 0 ∧ v = 0) ∨ (0 < wN (sR a) (sN a) (mo (sR a) (sB a)) ∧ HB v (oQ (sR a) (sN a) (mo (sR a) (sB a)) who (sN a).length))) := by
  have hW := hv.1
  have hl : lnk (sR a) (sN a) := hv.2.2.2.2.1
  have l4 := hl.1
  have mp := mo_parts hW (b := sB a) hv.2.2.1.1.1
  have mt : mo (sR a) (sB a) / 384 < tmv (sR a) := mp.2.2.1
  have ml : mo (sR a) (sB a) < 3456 := mp.2.2.2.2.2
  generalize mo (sR a) (sB a) = m at *
  generalize sN a = ln at *
  have w0 : h 62 (8 * 0 + m % 8) = nI (wN (sR a) ln m) := by
    have := hT 0 (m % 8) (Nat.le_refl _) (Nat.zero_le _) (Nat.mod_lt _ (by decide))
    rw [mb_0 mt] at this
    exact this
  have wb := wN_b (ρ := sR a) l4 0 m
  have wb : wN (sR a) ln m ≤ 65536 := wb
  unfold K_Lines_heldAlways
  rw [show (0 : Int32) = nI 0 from rfl, waysFromK (by omega) (by omega), bd_s, w0]
  by_cases d3 : wN (sR a) ln m = 0
  · rw [if_pos (congrArg nI d3)]
    exact ⟨_, rfl, .inl ⟨d3, rfl⟩⟩
  · rw [if_neg (fun q => d3 ((nI_eq_iff (by omega) (by omega)).mp q)), hcN.1, nm_s, headM (by omega), bd_s, nm_s]
    have ini : ∀ d, d < 8 → (d = m % 8 ↔ xN (sR a) ln m 0 (mb (sR a) ln m 0 d)) := fun d hd => by
      constructor
      · intro q
        show mb (sR a) ln m 0 d = m
        rw [q]
        exact mb_0 mt
      · intro q
        have q : mb (sR a) ln m 0 d = m := q
        have := (mb_ok hW hl (m := m) (k := 0) (d := d) (Nat.zero_le _) hd).2.2.2
        rw [q] at this
        exact this.symm
    obtain ⟨t, l1, l2⟩ := loopN_fx (fun z_ : Int32 × Int32 × Int32 => K_Lines_heldAlways_L32 N (nI who) (nI m) z_.1 z_.2.1 z_.2.2 h) (fun k s => ∃ v u, s = (v, u, nI k) ∧ HB v (oQ (sR a) ln m who k) ∧ S8 u (fun d => xN (sR a) ln m k (mb (sR a) ln m k d))) ln.length (fun t => HB t (oQ (sR a) ln m who ln.length)) (fun k s hk hJ => by
        obtain ⟨v, u, e, f1, f2⟩ := hJ
        subst e
        have sl := lnk_get hW hl hk
        obtain ⟨t2, l2, v2, u2, e2, f3, f4⟩ := loopN_fx (fun z_ : Int32 × Int32 × Int32 => K_Lines_heldAlways_L47 N (nI who) (nI m) z_.1 u (nI k) z_.2.1 z_.2.2 h) (fun i s => ∃ v u2, s = (v, u2, nI i) ∧ HB v (fun j => oQ (sR a) ln m who k j ∧ (j = k → ∀ i', i' < i → gC (sR a) ln m k i' → st2 who (i' % 16) = 3)) ∧ S8 u2 (fun d => ∃ i', i' < i ∧ gC (sR a) ln m k i' ∧ aft (sR a) 0 (mb (sR a) ln m k (i' / 16)) (i' % 16) % 8 = d)) 128 (fun t => ∃ v u2, t = (v, u2) ∧ HB v (fun j => oQ (sR a) ln m who k j ∧ (j = k → ∀ i', i' < 128 → gC (sR a) ln m k i' → st2 who (i' % 16) = 3)) ∧ S8 u2 (fun d => ∃ i', i' < 128 ∧ gC (sR a) ln m k i' ∧ aft (sR a) 0 (mb (sR a) ln m k (i' / 16)) (i' % 16) % 8 = d)) (fun i s hi hJ => by
            obtain ⟨v, u2, e, g1, g2⟩ := hJ
            subst e
            obtain ⟨a1, a2, a3, a4⟩ := mb_ok hW hl (m := m) (k := k) (d := i / 16) (by omega) (by omega)
            have yl := (aft_lt (kn := 0) (p := i % 16) a2 hW).2
            have wyb := wN_b (ρ := sR a) l4 (k + 1) (aft (sR a) 0 (mb (sR a) ln m k (i / 16)) (i % 16))
            have tst := S8_test f2 (k := i / 16) (by omega)
            have keep : ¬ gC (sR a) ln m k i → ∃ s', (nm (nI i + 1) (fun v154 => some (.inl (v, u2, v154))) : Option ((Int32 × Int32 × Int32) ⊕ (Int32 × Int32))) = some (.inl s') ∧ ∃ v u2, s' = (v, u2, nI (i + 1)) ∧ HB v (fun j => oQ (sR a) ln m who k j ∧ (j = k → ∀ i', i' < i + 1 → gC (sR a) ln m k i' → st2 who (i' % 16) = 3)) ∧ S8 u2 (fun d => ∃ i', i' < i + 1 ∧ gC (sR a) ln m k i' ∧ aft (sR a) 0 (mb (sR a) ln m k (i' / 16)) (i' % 16) % 8 = d) := fun ng => by
              rw [show nI i + 1 = nI (i + 1) from nI_add i 1, nm_s]
              refine ⟨_, rfl, v, u2, rfl, HB_congr g1 (fun j _ => ⟨fun q => ⟨q.1, fun ej i' hi' hg => ?_⟩, fun q => ⟨q.1, fun ej i' hi' => q.2 ej i' (by omega)⟩⟩), S8_congr g2 (fun d _ => ⟨fun ⟨i', q1, q2⟩ => ⟨i', by omega, q2⟩, fun ⟨i', q1, q2⟩ => ?_⟩)⟩
              · by_cases c : i' = i
                · rw [c] at hg; exact absurd hg ng
                · exact q.2 ej i' (by omega) hg
              · by_cases c : i' = i
                · rw [c] at q2; exact absurd q2.1 ng
                · exact ⟨i', by omega, q2⟩
            show ∃ s', K_Lines_heldAlways_L47 N (nI who) (nI m) v u (nI k) u2 (nI i) h = some (.inl s') ∧ _
            unfold K_Lines_heldAlways_L47
            rw [if_neg (show ¬ (128 : Int32) ≤ nI i from fun q => by have := (nI_le_iff (a := 128) (by omega) (by omega)).mp q; omega), show (16 : Int32) = nI 16 from rfl, nI_rem (by omega) (by omega) (by omega), nI_div (by omega) (by omega) (by omega), nm_s, behindK hW hR.2.1 hl hcN ml hk, bd_s, afterK hW hR.2.1 (by omega) hR.2.2 a2 (Nat.mod_lt _ (by decide)), bd_s]
            by_cases c1 : (u >>> (nI (i / 16) &&& 31)) &&& 1 = 0
            · rw [if_pos c1]
              exact keep (fun q => tst.mp c1 q.1)
            · rw [if_neg c1, waysBehindK hW hl hcN hk (by omega) (fun j d' h1 h2 h3 => hT j d' (Nat.zero_le _) h2 h3), bd_s]
              have hx : xN (sR a) ln m k (mb (sR a) ln m k (i / 16)) := Classical.byContradiction (fun q => c1 (tst.mpr q))
              unfold wY
              by_cases c2 : aft (sR a) 0 (mb (sR a) ln m k (i / 16)) (i % 16) % 384 / 8 = ln.getD k 0
              · rw [if_pos c2]
                by_cases c3 : 0 < wN (sR a) (ln.drop (k + 1)) (aft (sR a) 0 (mb (sR a) ln m k (i / 16)) (i % 16))
                · have hg : gC (sR a) ln m k i := ⟨hx, c2, c3⟩
                  rw [if_neg (show ¬ nI (wN (sR a) (ln.drop (k + 1)) (aft (sR a) 0 (mb (sR a) ln m k (i / 16)) (i % 16))) ≤ (0 : Int32) from fun q => by have := (nI_le_iff (b := 0) (by omega) (by omega)).mp q; omega), headM (by omega), bd_s, nm_s]
                  have hd8 : aft (sR a) 0 (mb (sR a) ln m k (i / 16)) (i % 16) % 8 < 8 := Nat.mod_lt _ (by decide)
                  have g3 := S8_congr (R := fun d => ∃ i', i' < i + 1 ∧ gC (sR a) ln m k i' ∧ aft (sR a) 0 (mb (sR a) ln m k (i' / 16)) (i' % 16) % 8 = d) (S8_or g2 hd8) (fun d _ => ⟨fun q => by
                    rcases q with ⟨i', q1, q2⟩ | q
                    · exact ⟨i', by omega, q2⟩
                    · exact ⟨i, by omega, hg, q.symm⟩, fun ⟨i', q1, q2, q3⟩ => by
                    by_cases c : i' = i
                    · rw [c] at q3; exact .inr q3.symm
                    · exact .inl ⟨i', by omega, q2, q3⟩⟩)
                  generalize u2 ||| (1 <<< (nI (aft (sR a) 0 (mb (sR a) ln m k (i / 16)) (i % 16) % 8) &&& 31)) = u3 at g3 ⊢
                  have j136 : ∀ y, y < 4 → st2 who (i % 16) = y → ∃ s', K_Lines_heldAlways_J136 N (nI who) (nI m) v u (nI k) u3 (nI i) v (nI y) h = some (.inl s') ∧ ∃ v u2, s' = (v, u2, nI (i + 1)) ∧ HB v (fun j => oQ (sR a) ln m who k j ∧ (j = k → ∀ i', i' < i + 1 → gC (sR a) ln m k i' → st2 who (i' % 16) = 3)) ∧ S8 u2 (fun d => ∃ i', i' < i + 1 ∧ gC (sR a) ln m k i' ∧ aft (sR a) 0 (mb (sR a) ln m k (i' / 16)) (i' % 16) % 8 = d) := by
                    intro y hy ey
                    unfold K_Lines_heldAlways_J136 K_Lines_heldAlways_J151
                    rw [show nI i + 1 = nI (i + 1) from nI_add i 1, nm_s, nm_s, nm_s, nm_s]
                    by_cases c4 : y = 3
                    · rw [if_pos (show nI y = 3 by rw [c4]; rfl), HB_self g1]
                      refine ⟨_, rfl, v, u3, rfl, HB_congr g1 (fun j _ => ⟨fun q => ⟨q.1, fun ej i' hi' hgg => ?_⟩, fun q => ⟨q.1, fun ej i' hi' => q.2 ej i' (by omega)⟩⟩), g3⟩
                      by_cases c : i' = i
                      · rw [c, ey]; exact c4
                      · exact q.2 ej i' (by omega) hgg
                    · rw [if_neg (show ¬ nI y = 3 from fun q => c4 ((nI_eq_iff (b := 3) (by omega) (by omega)).mp q))]
                      refine ⟨_, rfl, _, u3, rfl, HB_congr (HB_clr g1 (k := k) (by omega)) (fun j _ => ⟨fun q => ⟨q.1.1, fun ej => absurd ej q.2⟩, fun q => ⟨⟨q.1, fun ej i' hi' => q.2 ej i' (by omega)⟩, fun ej => ?_⟩⟩), g3⟩
                      have := q.2 ej i (by omega) hg
                      omega
                  by_cases cw : who = 0
                  · rw [if_pos (show nI who = 0 by rw [cw]; rfl), show (4 : Int32) = nI 4 from rfl, nI_div (by omega) (by omega) (by omega)]
                    exact j136 _ (by omega) (by unfold st2; rw [if_pos cw])
                  · rw [if_neg (show ¬ nI who = 0 from fun q => cw ((nI_eq_iff (b := 0) (by omega) (by omega)).mp q)), show (4 : Int32) = nI 4 from rfl, nI_rem (by omega) (by omega) (by omega)]
                    exact j136 _ (by omega) (by unfold st2; rw [if_neg cw])
                · rw [if_pos (show nI (wN (sR a) (ln.drop (k + 1)) (aft (sR a) 0 (mb (sR a) ln m k (i / 16)) (i % 16))) ≤ (0 : Int32) from (nI_le_iff (b := 0) (by omega) (by omega)).mpr (by omega))]
                  exact keep (fun q => c3 q.2.2)
              · rw [if_neg c2, if_pos (show nI 0 ≤ (0 : Int32) by decide)]
                exact keep (fun q => c2 q.2.1)) (fun s hJ => by
            obtain ⟨v, u2, e, g⟩ := hJ
            subst e
            refine ⟨(v, u2), ?_, v, u2, rfl, g⟩
            show K_Lines_heldAlways_L47 N (nI who) (nI m) v u (nI k) u2 (nI 128) h = _
            unfold K_Lines_heldAlways_L47
            rw [if_pos (by decide)]) (s0 := (v, 0, 0)) ⟨v, 0, rfl, HB_congr f1 (fun j _ => ⟨fun q => ⟨q, fun _ i' hi' => absurd hi' (Nat.not_lt_zero _)⟩, fun q => q.1⟩), S8_congr S8_none (fun d _ => ⟨fun q => absurd q (fun z => z), fun ⟨i', q, _⟩ => absurd q (Nat.not_lt_zero _)⟩)⟩ (N := N) (by omega)
        subst e2
        refine ⟨(v2, u2, nI (k + 1)), ?_, v2, u2, rfl, HB_congr f3 (fun j _ => ⟨fun q => ⟨q.1.1, fun hj p hp => ?_⟩, fun q => ⟨⟨q.1, fun hj => q.2 (by omega)⟩, fun ej i' hi' hg => ?_⟩⟩), S8_congr f4 (fun d hd => ⟨fun ⟨i', q1, q2, q3⟩ => ?_, fun q => ?_⟩)⟩
        · show K_Lines_heldAlways_L32 N (nI who) (nI m) v u (nI k) h = _
          unfold K_Lines_heldAlways_L32
          rw [hcN.1, if_neg (fun q => by have := (nI_le_iff (by omega) (by omega)).mp q; omega), l2, bd_s, nm_s, show nI k + 1 = nI (k + 1) from nI_add k 1, nm_s]
        · by_cases c : j = k
          · subst c
            obtain ⟨i', z1, z2, z3⟩ := (gC_dN hW hl mt hk).mp hp
            rw [← z3]
            exact q.2 rfl i' z1 z2
          · exact q.1.2 (by omega) p hp
        · subst ej
          exact q.2 (by omega) _ ((gC_dN hW hl mt hk).mpr ⟨i', hi', hg, rfl⟩)
        · have nx := mb_next hW hl (m := m) (d := i' / 16) (p := i' % 16) hk (by omega) q2.2.1
          rw [q3] at nx
          rw [← nx]
          exact ⟨_, _, q2.1, Nat.mod_lt _ (by decide), rfl, q2.2.1, q2.2.2⟩
        · obtain ⟨x0, p, z1, z2, z3, z4, z5⟩ := q
          have e0 := xN_mb hW hl mt k x0 (by omega) z1
          have r := Nat.mod_lt x0 (by decide : 0 < 8)
          have d8 := (mb_ok hW hl (m := m) (k := k + 1) (d := d) hk hd).2.2.2
          refine ⟨16 * (x0 % 8) + p, by omega, ?_, ?_⟩
          · unfold gC
            rw [show (16 * (x0 % 8) + p) / 16 = x0 % 8 by omega, show (16 * (x0 % 8) + p) % 16 = p by omega, ← e0, ← z3]
            exact ⟨z1, z4, z5⟩
          · rw [show (16 * (x0 % 8) + p) / 16 = x0 % 8 by omega, show (16 * (x0 % 8) + p) % 16 = p by omega, ← e0, ← z3]
            exact d8) (fun s hJ => by
        obtain ⟨v, u, e, f1, f2⟩ := hJ
        subst e
        refine ⟨v, ?_, f1⟩
        show K_Lines_heldAlways_L32 N (nI who) (nI m) v u (nI ln.length) h = _
        unfold K_Lines_heldAlways_L32
        rw [hcN.1, if_pos ((nI_le_iff (by omega) (by omega)).mpr (Nat.le_refl _))]) (s0 := ((1 <<< (nI ln.length &&& 31)) - 1, 1 <<< (nI (m % 8) &&& 31), 0)) ⟨_, _, rfl, HB_congr (HB_init l4) (fun j _ => ⟨fun q => ⟨q, fun z => absurd z (Nat.not_lt_zero _)⟩, fun q => q.1⟩), S8_congr (S8_init (Nat.mod_lt _ (by decide))) ini⟩ (N := N) (by omega)
    exact ⟨t, by rw [show loopN (fun z_ : Int32 × Int32 × Int32 => K_Lines_heldAlways_L32 N (nI who) (nI m) z_.1 z_.2.1 z_.2.2 h) N ((1 <<< (nI ln.length &&& 31)) - 1, 1 <<< (nI (m % 8) &&& 31), nI 0) = some t from l1, bd_s], .inr ⟨by omega, l2⟩⟩

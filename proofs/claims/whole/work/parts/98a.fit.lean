/-! what fits: the theory -/
def sumN (f : Nat → Nat) : Nat → Nat
  | 0 => 0
  | i + 1 => sumN f i + f i
theorem sumN_pos (f : Nat → Nat) : ∀ n, 0 < sumN f n ↔ ∃ i, i < n ∧ 0 < f i
  | 0 => ⟨fun h => absurd h (Nat.lt_irrefl 0), fun ⟨_, h, _⟩ => absurd h (Nat.not_lt_zero _)⟩
  | n + 1 => by
    have ih := sumN_pos f n
    show 0 < sumN f n + f n ↔ _
    constructor
    · intro h
      by_cases c : 0 < f n
      · exact ⟨n, by omega, c⟩
      · obtain ⟨i, h1, h2⟩ := ih.mp (by omega)
        exact ⟨i, by omega, h2⟩
    · rintro ⟨i, h1, h2⟩
      by_cases c : i = n
      · subst c; omega
      · have := ih.mpr ⟨i, by omega, h2⟩
        omega
theorem sumN_le (f : Nat → Nat) (B : Nat) : ∀ n, (∀ i, i < n → f i ≤ B) → sumN f n ≤ n * B
  | 0, _ => Nat.zero_le _
  | n + 1, h => by
    have a := sumN_le f B n (fun i hi => h i (by omega))
    have b := h n (by omega)
    show sumN f n + f n ≤ (n + 1) * B
    rw [Nat.succ_mul]
    omega
theorem sumN_congr {f g : Nat → Nat} : ∀ n, (∀ i, i < n → f i = g i) → sumN f n = sumN g n
  | 0, _ => rfl
  | n + 1, h => by
    show sumN f n + f n = sumN g n + g n
    rw [sumN_congr n (fun i hi => h i (by omega)), h n (by omega)]
/-- how many rows fit the squares, from a moment on -/
def wN (ρ : Rv) : List Nat → Nat → Nat
  | [], _ => 1
  | s :: ss, m => sumN (fun p => if aft ρ 0 m p % 384 / 8 = s then wN ρ ss (aft ρ 0 m p) else 0) 16
theorem wN_le (ρ : Rv) : ∀ (ln : List Nat) (m : Nat), wN ρ ln m ≤ 16 ^ ln.length
  | [], _ => Nat.le_refl _
  | s :: ss, m => by
    have : wN ρ (s :: ss) m ≤ 16 * 16 ^ ss.length := sumN_le _ _ 16 (fun p _ => by
      show (if aft ρ 0 m p % 384 / 8 = s then wN ρ ss (aft ρ 0 m p) else 0) ≤ _
      split
      · exact wN_le ρ ss _
      · exact Nat.zero_le _)
    show _ ≤ 16 ^ (ss.length + 1)
    rw [Nat.pow_succ, Nat.mul_comm]
    exact this
theorem wN_pos {ρ : Rv} {s : Nat} {ss : List Nat} {m : Nat} : 0 < wN ρ (s :: ss) m ↔ ∃ p, p < 16 ∧ aft ρ 0 m p % 384 / 8 = s ∧ 0 < wN ρ ss (aft ρ 0 m p) := by
  refine (sumN_pos _ 16).trans ⟨?_, ?_⟩
  · rintro ⟨p, h1, h2⟩
    have h2 : 0 < (if aft ρ 0 m p % 384 / 8 = s then wN ρ ss (aft ρ 0 m p) else 0) := h2
    by_cases c : aft ρ 0 m p % 384 / 8 = s
    · rw [if_pos c] at h2; exact ⟨p, h1, c, h2⟩
    · rw [if_neg c] at h2; exact absurd h2 (Nat.lt_irrefl 0)
  · rintro ⟨p, h1, h2, h3⟩
    refine ⟨p, h1, ?_⟩
    show 0 < (if aft ρ 0 m p % 384 / 8 = s then wN ρ ss (aft ρ 0 m p) else 0)
    rw [if_pos h2]; exact h3
/-- how many below n -/
def ctN (P : Nat → Bool) : Nat → Nat
  | 0 => 0
  | i + 1 => ctN P i + (if P i = true then 1 else 0)
theorem ctN_congr {P Q : Nat → Bool} : ∀ n, (∀ i, i < n → P i = Q i) → ctN P n = ctN Q n
  | 0, _ => rfl
  | n + 1, h => by
    show ctN P n + _ = ctN Q n + _
    rw [ctN_congr n (fun i hi => h i (by omega)), h n (by omega)]
theorem ctN_0 {P : Nat → Bool} : ∀ n, ctN P n = 0 ↔ ∀ i, i < n → P i = false
  | 0 => ⟨fun _ i h => absurd h (Nat.not_lt_zero _), fun _ => rfl⟩
  | n + 1 => by
    have ih := ctN_0 (P := P) n
    show ctN P n + (if P n = true then 1 else 0) = 0 ↔ _
    constructor
    · intro h i hi
      by_cases c : P n = true
      · rw [if_pos c] at h; omega
      · rw [if_neg c] at h
        by_cases e : i = n
        · rw [e]; exact Bool.eq_false_iff.mpr c
        · exact ih.mp (by omega) i (by omega)
    · intro h
      rw [ih.mpr (fun i hi => h i (by omega)), if_neg (by rw [h n (by omega)]; decide)]
theorem ctN_add (P : Nat → Bool) (x : Nat) : ∀ y, ctN P (x + y) = ctN P x + ctN (fun r => P (x + r)) y
  | 0 => rfl
  | y + 1 => by
    show ctN P (x + y) + (if P (x + y) = true then 1 else 0) = ctN P x + (ctN (fun r => P (x + r)) y + (if P (x + y) = true then 1 else 0))
    rw [ctN_add P x y]
    omega
theorem ctN_block (P : Nat → Bool) (b : Nat) : ∀ a, ctN P (a * b) = sumN (fun p => ctN (fun r => P (p * b + r)) b) a
  | 0 => by rw [Nat.zero_mul]; rfl
  | a + 1 => by
    show _ = sumN (fun p => ctN (fun r => P (p * b + r)) b) a + ctN (fun r => P (a * b + r)) b
    rw [Nat.succ_mul, ctN_add, ctN_block P b a]
theorem ctN_le (P : Nat → Bool) : ∀ n, ctN P n ≤ n
  | 0 => Nat.le_refl _
  | n + 1 => by
    have := ctN_le P n
    show ctN P n + _ ≤ n + 1
    split <;> omega
theorem ctN_mono {P : Nat → Bool} {a b : Nat} (h : a ≤ b) : ctN P a ≤ ctN P b := by
  have := ctN_add P a (b - a)
  rw [show a + (b - a) = b by omega] at this
  omega
/-- whether a row fits -/
def fitR (ρ : Rv) : List Nat → Nat → Nat → Bool
  | [], _, _ => true
  | s :: ss, m, r => decide (aft ρ 0 m (r / 16 ^ ss.length) % 384 / 8 = s) && fitR ρ ss (aft ρ 0 m (r / 16 ^ ss.length)) (r % 16 ^ ss.length)
theorem fitR_s {ρ : Rv} {s : Nat} {ss : List Nat} {m r : Nat} : fitR ρ (s :: ss) m r = true ↔ aft ρ 0 m (r / 16 ^ ss.length) % 384 / 8 = s ∧ fitR ρ ss (aft ρ 0 m (r / 16 ^ ss.length)) (r % 16 ^ ss.length) = true := by
  show (decide _ && _) = true ↔ _
  rw [Bool.and_eq_true, decide_eq_true_iff]
theorem blk {p b r : Nat} (h : r < b) : (p * b + r) / b = p ∧ (p * b + r) % b = r := by
  have hb : 0 < b := by omega
  rw [Nat.mul_comm, Nat.mul_add_div hb, Nat.mul_add_mod, Nat.div_eq_of_lt h, Nat.mod_eq_of_lt h]
  exact ⟨Nat.add_zero _, rfl⟩
theorem fit_count (ρ : Rv) : ∀ (ln : List Nat) (m : Nat), ctN (fitR ρ ln m) (16 ^ ln.length) = wN ρ ln m
  | [], m => rfl
  | s :: ss, m => by
    show ctN (fitR ρ (s :: ss) m) (16 ^ (ss.length + 1)) = sumN _ 16
    rw [Nat.pow_succ, Nat.mul_comm, ctN_block]
    refine sumN_congr 16 (fun p _ => ?_)
    show ctN (fun r => fitR ρ (s :: ss) m (p * 16 ^ ss.length + r)) (16 ^ ss.length) = if aft ρ 0 m p % 384 / 8 = s then wN ρ ss (aft ρ 0 m p) else 0
    have e : ∀ r, r < 16 ^ ss.length → fitR ρ (s :: ss) m (p * 16 ^ ss.length + r) = (decide (aft ρ 0 m p % 384 / 8 = s) && fitR ρ ss (aft ρ 0 m p) r) := fun r hr => by
      show (decide (aft ρ 0 m ((p * 16 ^ ss.length + r) / 16 ^ ss.length) % 384 / 8 = s) && fitR ρ ss (aft ρ 0 m ((p * 16 ^ ss.length + r) / 16 ^ ss.length)) ((p * 16 ^ ss.length + r) % 16 ^ ss.length)) = _
      rw [(blk hr).1, (blk hr).2]
    rw [ctN_congr _ e]
    by_cases c : aft ρ 0 m p % 384 / 8 = s
    · rw [if_pos c, decide_eq_true c, ← fit_count ρ ss (aft ρ 0 m p)]
      exact ctN_congr _ (fun r _ => Bool.true_and _)
    · rw [if_neg c, decide_eq_false c]
      exact (ctN_0 _).mpr (fun r _ => Bool.false_and _)
/-- the first pair that fits, and the first row -/
def gp (ρ : Rv) (ss : List Nat) (s m : Nat) : Nat := fs (fun p => decide (aft ρ 0 m p % 384 / 8 = s) && decide (0 < wN ρ ss (aft ρ 0 m p))) 16
theorem gp_ok {ρ : Rv} {s : Nat} {ss : List Nat} {m : Nat} (h : 0 < wN ρ (s :: ss) m) : gp ρ ss s m < 16 ∧ aft ρ 0 m (gp ρ ss s m) % 384 / 8 = s ∧ 0 < wN ρ ss (aft ρ 0 m (gp ρ ss s m)) ∧ ∀ p, p < gp ρ ss s m → ¬ (aft ρ 0 m p % 384 / 8 = s ∧ 0 < wN ρ ss (aft ρ 0 m p)) := by
  obtain ⟨p, h1, h2, h3⟩ := wN_pos.mp h
  have hl : gp ρ ss s m < 16 := by
    by_cases c : gp ρ ss s m < 16
    · exact c
    · have := fs_lt (fun p => decide (aft ρ 0 m p % 384 / 8 = s) && decide (0 < wN ρ ss (aft ρ 0 m p))) (e := 16) (j := p) (by unfold gp at c; omega)
      have this : (decide (aft ρ 0 m p % 384 / 8 = s) && decide (0 < wN ρ ss (aft ρ 0 m p))) = false := this
      rw [decide_eq_true h2, decide_eq_true h3] at this
      exact absurd this (by decide)
  have a : (decide (aft ρ 0 m (gp ρ ss s m) % 384 / 8 = s) && decide (0 < wN ρ ss (aft ρ 0 m (gp ρ ss s m)))) = true := fs_at (fun p => decide (aft ρ 0 m p % 384 / 8 = s) && decide (0 < wN ρ ss (aft ρ 0 m p))) hl
  rw [Bool.and_eq_true, decide_eq_true_iff, decide_eq_true_iff] at a
  refine ⟨hl, a.1, a.2, fun q hq z => ?_⟩
  have := fs_lt (fun p => decide (aft ρ 0 m p % 384 / 8 = s) && decide (0 < wN ρ ss (aft ρ 0 m p))) (e := 16) (j := q) hq
  have this : (decide (aft ρ 0 m q % 384 / 8 = s) && decide (0 < wN ρ ss (aft ρ 0 m q))) = false := this
  rw [decide_eq_true z.1, decide_eq_true z.2] at this
  exact absurd this (by decide)
def gR (ρ : Rv) : List Nat → Nat → Nat
  | [], _ => 0
  | s :: ss, m => gp ρ ss s m * 16 ^ ss.length + gR ρ ss (aft ρ 0 m (gp ρ ss s m))
theorem gR_ok (ρ : Rv) : ∀ (ln : List Nat) (m : Nat), 0 < wN ρ ln m → gR ρ ln m < 16 ^ ln.length ∧ fitR ρ ln m (gR ρ ln m) = true ∧ ∀ j, j < gR ρ ln m → fitR ρ ln m j = false
  | [], m, _ => ⟨by show 0 < 16 ^ 0; decide, rfl, fun j hj => absurd hj (Nat.not_lt_zero _)⟩
  | s :: ss, m, h => by
    obtain ⟨a1, a2, a3, a4⟩ := gp_ok h
    obtain ⟨b1, b2, b3⟩ := gR_ok ρ ss _ a3
    have hb : 0 < 16 ^ ss.length := Nat.pow_pos (by decide)
    refine ⟨?_, ?_, fun j hj => ?_⟩
    · show gp ρ ss s m * 16 ^ ss.length + gR ρ ss (aft ρ 0 m (gp ρ ss s m)) < 16 ^ (ss.length + 1)
      rw [Nat.pow_succ, Nat.mul_comm (16 ^ ss.length) 16]
      have : (gp ρ ss s m + 1) * 16 ^ ss.length ≤ 16 * 16 ^ ss.length := Nat.mul_le_mul_right _ a1
      rw [Nat.succ_mul] at this
      omega
    · refine fitR_s.mpr ?_
      show aft ρ 0 m ((gp ρ ss s m * 16 ^ ss.length + gR ρ ss (aft ρ 0 m (gp ρ ss s m))) / 16 ^ ss.length) % 384 / 8 = s ∧ _
      show _ ∧ fitR ρ ss (aft ρ 0 m ((gp ρ ss s m * 16 ^ ss.length + gR ρ ss (aft ρ 0 m (gp ρ ss s m))) / 16 ^ ss.length)) ((gp ρ ss s m * 16 ^ ss.length + gR ρ ss (aft ρ 0 m (gp ρ ss s m))) % 16 ^ ss.length) = true
      rw [(blk b1).1, (blk b1).2]
      exact ⟨a2, b2⟩
    · refine Bool.eq_false_iff.mpr (fun z => ?_)
      obtain ⟨z1, z2⟩ := fitR_s.mp z
      have hj : j < gp ρ ss s m * 16 ^ ss.length + gR ρ ss (aft ρ 0 m (gp ρ ss s m)) := hj
      have dm := Nat.div_add_mod j (16 ^ ss.length)
      have ml := Nat.mod_lt j hb
      rcases Nat.lt_trichotomy (j / 16 ^ ss.length) (gp ρ ss s m) with c | c | c
      · refine a4 _ c ⟨z1, ?_⟩
        rw [← fit_count ρ ss]
        by_cases d : ctN (fitR ρ ss (aft ρ 0 m (j / 16 ^ ss.length))) (16 ^ ss.length) = 0
        · have := (ctN_0 _).mp d _ ml
          rw [z2] at this
          exact absurd this (by decide)
        · omega
      · rw [c] at z2 dm
        have := b3 (j % 16 ^ ss.length) (by rw [Nat.mul_comm] at dm; omega)
        rw [z2] at this
        exact absurd this (by decide)
      · have : (gp ρ ss s m + 1) * 16 ^ ss.length ≤ j / 16 ^ ss.length * 16 ^ ss.length := Nat.mul_le_mul_right _ c
        rw [Nat.succ_mul] at this
        rw [Nat.mul_comm] at dm
        omega
/-- the figures of a row -/
theorem prw_hi {r n : Nat} (hn : n ≤ 3) (h : r < 16 ^ (n + 1)) : prw r (n + 1) 0 = r / 16 ^ n := by
  show r / 16 ^ (n + 1 - 1 - 0) % 16 = r / 16 ^ n
  rcases (by omega : n = 0 ∨ n = 1 ∨ n = 2 ∨ n = 3) with e | e | e | e <;> subst e
  · have h : r < 16 := h
    show r / 1 % 16 = r / 1
    omega
  · have h : r < 256 := h
    show r / 16 % 16 = r / 16
    omega
  · have h : r < 4096 := h
    show r / 256 % 16 = r / 256
    omega
  · have h : r < 65536 := h
    show r / 4096 % 16 = r / 4096
    omega
theorem prw_lo {r n k : Nat} (hn : n ≤ 3) (hk : k < n) : prw r (n + 1) (k + 1) = prw (r % 16 ^ n) n k := by
  show r / 16 ^ (n + 1 - 1 - (k + 1)) % 16 = r % 16 ^ n / 16 ^ (n - 1 - k) % 16
  rcases (by omega : (n = 1 ∧ k = 0) ∨ (n = 2 ∧ k = 0) ∨ (n = 2 ∧ k = 1) ∨ (n = 3 ∧ k = 0) ∨ (n = 3 ∧ k = 1) ∨ (n = 3 ∧ k = 2)) with ⟨e, f⟩ | ⟨e, f⟩ | ⟨e, f⟩ | ⟨e, f⟩ | ⟨e, f⟩ | ⟨e, f⟩ <;> subst e f
  · show r / 1 % 16 = r % 16 / 1 % 16
    omega
  · show r / 16 % 16 = r % 256 / 16 % 16
    omega
  · show r / 1 % 16 = r % 256 / 1 % 16
    omega
  · show r / 256 % 16 = r % 4096 / 256 % 16
    omega
  · show r / 16 % 16 = r % 4096 / 16 % 16
    omega
  · show r / 1 % 16 = r % 4096 / 1 % 16
    omega
theorem stN_shift {ρ : Rv} {m r n : Nat} (hn : n ≤ 3) (h : r < 16 ^ (n + 1)) : ∀ k, k ≤ n → stN ρ m r (n + 1) (k + 1) = stN ρ (aft ρ 0 m (r / 16 ^ n)) (r % 16 ^ n) n k
  | 0, _ => by
    show aft ρ 0 m (prw r (n + 1) 0) = aft ρ 0 m (r / 16 ^ n)
    rw [prw_hi hn h]
  | k + 1, hk => by
    show aft ρ 0 (stN ρ m r (n + 1) (k + 1)) (prw r (n + 1) (k + 1)) = aft ρ 0 (stN ρ (aft ρ 0 m (r / 16 ^ n)) (r % 16 ^ n) n k) (prw (r % 16 ^ n) n k)
    rw [stN_shift hn h k (by omega), prw_lo hn (by omega)]
theorem fit_iff {ρ : Rv} : ∀ (ln : List Nat) (m r : Nat), ln.length ≤ 4 → r < 16 ^ ln.length → (fitR ρ ln m r = true ↔ ∀ k, k < ln.length → stN ρ m r ln.length (k + 1) % 384 / 8 = ln.getD k 0)
  | [], m, r, _, _ => ⟨fun _ k hk => absurd hk (Nat.not_lt_zero _), fun _ => rfl⟩
  | s :: ss, m, r, hl, hr => by
    have hl : ss.length + 1 ≤ 4 := hl
    have hr : r < 16 ^ (ss.length + 1) := hr
    have hb : 0 < 16 ^ ss.length := Nat.pow_pos (by decide)
    have ih := fit_iff (ρ := ρ) ss (aft ρ 0 m (r / 16 ^ ss.length)) (r % 16 ^ ss.length) (by omega) (Nat.mod_lt _ hb)
    rw [fitR_s, ih]
    constructor
    · rintro ⟨h1, h2⟩ k hk
      have hk : k < ss.length + 1 := hk
      show stN ρ m r (ss.length + 1) (k + 1) % 384 / 8 = _
      rw [stN_shift (by omega) hr k (by omega)]
      cases k with
      | zero => exact h1
      | succ k => exact h2 k (by omega)
    · intro h
      refine ⟨?_, fun k hk => ?_⟩
      · have := h 0 (Nat.succ_pos _)
        have this : stN ρ m r (ss.length + 1) (0 + 1) % 384 / 8 = s := this
        rw [stN_shift (by omega) hr 0 (by omega)] at this
        exact this
      · have := h (k + 1) (Nat.succ_lt_succ hk)
        have this : stN ρ m r (ss.length + 1) (k + 1 + 1) % 384 / 8 = ss.getD k 0 := this
        rw [stN_shift (by omega) hr (k + 1) (by omega)] at this
        exact this
/-- the first row's pairs, one by one -/
def gpk (ρ : Rv) (ln : List Nat) (k x : Nat) : Nat := gp ρ (ln.drop (k + 1)) (ln.getD k 0) x
def gmN (ρ : Rv) (ln : List Nat) (m : Nat) : Nat → Nat
  | 0 => m
  | i + 1 => aft ρ 0 (gmN ρ ln m i) (gpk ρ ln i (gmN ρ ln m i))
theorem gmN_shift (ρ : Rv) (s : Nat) (ss : List Nat) (m : Nat) : ∀ i, gmN ρ (s :: ss) m (i + 1) = gmN ρ ss (aft ρ 0 m (gp ρ ss s m)) i
  | 0 => rfl
  | i + 1 => by
    show aft ρ 0 (gmN ρ (s :: ss) m (i + 1)) (gp ρ (ss.drop (i + 1)) (ss.getD i 0) (gmN ρ (s :: ss) m (i + 1))) = aft ρ 0 (gmN ρ ss (aft ρ 0 m (gp ρ ss s m)) i) (gp ρ (ss.drop (i + 1)) (ss.getD i 0) (gmN ρ ss (aft ρ 0 m (gp ρ ss s m)) i))
    rw [gmN_shift ρ s ss m i]
theorem gR_dig (ρ : Rv) : ∀ (ln : List Nat) (m i : Nat), ln.length ≤ 4 → i < ln.length → 0 < wN ρ ln m → prw (gR ρ ln m) ln.length i = gpk ρ ln i (gmN ρ ln m i) ∧ 0 < wN ρ (ln.drop i) (gmN ρ ln m i)
  | [], m, i, _, hi, _ => absurd hi (Nat.not_lt_zero _)
  | s :: ss, m, 0, hl, hi, h => by
    have hl : ss.length + 1 ≤ 4 := hl
    obtain ⟨a1, a2, a3, a4⟩ := gp_ok h
    obtain ⟨b1, b2, b3⟩ := gR_ok ρ ss _ a3
    obtain ⟨c1, -, -⟩ := gR_ok ρ (s :: ss) m h
    refine ⟨?_, h⟩
    show prw (gR ρ (s :: ss) m) (ss.length + 1) 0 = gp ρ ss s m
    rw [prw_hi (by omega) c1]
    exact (blk b1).1
  | s :: ss, m, i + 1, hl, hi, h => by
    have hl : ss.length + 1 ≤ 4 := hl
    have hi : i < ss.length := Nat.lt_of_succ_lt_succ hi
    obtain ⟨a1, a2, a3, a4⟩ := gp_ok h
    obtain ⟨b1, b2, b3⟩ := gR_ok ρ ss _ a3
    obtain ⟨d1, d2⟩ := gR_dig ρ ss _ i (by omega) hi a3
    rw [gmN_shift]
    refine ⟨?_, d2⟩
    show prw (gR ρ (s :: ss) m) (ss.length + 1) (i + 1) = gpk ρ ss i (gmN ρ ss (aft ρ 0 m (gp ρ ss s m)) i)
    rw [prw_lo (by omega) hi, ← d1]
    show prw ((gp ρ ss s m * 16 ^ ss.length + gR ρ ss (aft ρ 0 m (gp ρ ss s m))) % 16 ^ ss.length) ss.length i = _
    rw [(blk b1).2]
/-- the pair p may be the k-th of what fits -/
def dN (ρ : Rv) (k : Nat) (ln : List Nat) (m p : Nat) : Prop := ∃ r, r < 16 ^ ln.length ∧ fitR ρ ln m r = true ∧ prw r ln.length k = p
theorem wN_ex {ρ : Rv} {ln : List Nat} {m : Nat} : 0 < wN ρ ln m ↔ ∃ r, r < 16 ^ ln.length ∧ fitR ρ ln m r = true := by
  constructor
  · intro h
    obtain ⟨a, b, -⟩ := gR_ok ρ ln m h
    exact ⟨_, a, b⟩
  · rintro ⟨r, h1, h2⟩
    rw [← fit_count ρ ln m]
    by_cases d : ctN (fitR ρ ln m) (16 ^ ln.length) = 0
    · have := (ctN_0 _).mp d r h1
      rw [h2] at this
      exact absurd this (by decide)
    · omega
theorem dN_0 {ρ : Rv} {s : Nat} {ss : List Nat} {m p : Nat} (hl : ss.length ≤ 3) : dN ρ 0 (s :: ss) m p ↔ p < 16 ∧ aft ρ 0 m p % 384 / 8 = s ∧ 0 < wN ρ ss (aft ρ 0 m p) := by
  have hb : 0 < 16 ^ ss.length := Nat.pow_pos (by decide)
  constructor
  · rintro ⟨r, h1, h2, h3⟩
    have h1 : r < 16 ^ (ss.length + 1) := h1
    have h3 : prw r (ss.length + 1) 0 = p := h3
    rw [prw_hi hl h1] at h3
    obtain ⟨z1, z2⟩ := fitR_s.mp h2
    rw [h3] at z1 z2
    refine ⟨?_, z1, wN_ex.mpr ⟨_, Nat.mod_lt _ hb, z2⟩⟩
    rw [← h3, ← prw_hi hl h1]
    exact prw_lt _ _ _
  · rintro ⟨h1, h2, h3⟩
    obtain ⟨r, a1, a2⟩ := wN_ex.mp h3
    have hr : p * 16 ^ ss.length + r < 16 ^ (ss.length + 1) := by
      rw [Nat.pow_succ, Nat.mul_comm (16 ^ ss.length) 16]
      have : (p + 1) * 16 ^ ss.length ≤ 16 * 16 ^ ss.length := Nat.mul_le_mul_right _ h1
      rw [Nat.succ_mul] at this
      omega
    refine ⟨p * 16 ^ ss.length + r, hr, fitR_s.mpr ?_, ?_⟩
    · rw [(blk a1).1, (blk a1).2]; exact ⟨h2, a2⟩
    · show prw _ (ss.length + 1) 0 = p
      rw [prw_hi hl hr]; exact (blk a1).1
theorem dN_s {ρ : Rv} {k s : Nat} {ss : List Nat} {m p : Nat} (hl : ss.length ≤ 3) (hk : k < ss.length) : dN ρ (k + 1) (s :: ss) m p ↔ ∃ p0, p0 < 16 ∧ aft ρ 0 m p0 % 384 / 8 = s ∧ dN ρ k ss (aft ρ 0 m p0) p := by
  have hb : 0 < 16 ^ ss.length := Nat.pow_pos (by decide)
  constructor
  · rintro ⟨r, h1, h2, h3⟩
    have h1 : r < 16 ^ (ss.length + 1) := h1
    have h3 : prw r (ss.length + 1) (k + 1) = p := h3
    rw [prw_lo hl hk] at h3
    obtain ⟨z1, z2⟩ := fitR_s.mp h2
    refine ⟨r / 16 ^ ss.length, ?_, z1, r % 16 ^ ss.length, Nat.mod_lt _ hb, z2, h3⟩
    rw [← prw_hi hl h1]
    exact prw_lt _ _ _
  · rintro ⟨p0, h1, h2, r, a1, a2, a3⟩
    have hr : p0 * 16 ^ ss.length + r < 16 ^ (ss.length + 1) := by
      rw [Nat.pow_succ, Nat.mul_comm (16 ^ ss.length) 16]
      have : (p0 + 1) * 16 ^ ss.length ≤ 16 * 16 ^ ss.length := Nat.mul_le_mul_right _ h1
      rw [Nat.succ_mul] at this
      omega
    refine ⟨p0 * 16 ^ ss.length + r, hr, fitR_s.mpr ?_, ?_⟩
    · rw [(blk a1).1, (blk a1).2]; exact ⟨h2, a2⟩
    · show prw _ (ss.length + 1) (k + 1) = p
      rw [prw_lo hl hk, (blk a1).2]; exact a3
/-- reached after k strokes of what fits -/
def xN (ρ : Rv) (ln : List Nat) (m : Nat) : Nat → Nat → Prop
  | 0 => fun x => x = m
  | k + 1 => fun x => ∃ x0 p, xN ρ ln m k x0 ∧ p < 16 ∧ x = aft ρ 0 x0 p ∧ x % 384 / 8 = ln.getD k 0 ∧ 0 < wN ρ (ln.drop (k + 1)) x
theorem xN_front {ρ : Rv} {s : Nat} {ss : List Nat} {m : Nat} : ∀ k x, xN ρ (s :: ss) m (k + 1) x ↔ ∃ p0, p0 < 16 ∧ aft ρ 0 m p0 % 384 / 8 = s ∧ 0 < wN ρ ss (aft ρ 0 m p0) ∧ xN ρ ss (aft ρ 0 m p0) k x
  | 0, x => by
    constructor
    · rintro ⟨x0, p, h1, h2, h3, h4, h5⟩
      have h1 : x0 = m := h1
      subst h1
      refine ⟨p, h2, ?_, ?_, h3⟩
      · rw [← h3]; exact h4
      · rw [← h3]; exact h5
    · rintro ⟨p, h1, h2, h3, h4⟩
      have h4 : x = aft ρ 0 m p := h4
      subst h4
      exact ⟨m, p, rfl, h1, rfl, h2, h3⟩
  | k + 1, x => by
    have ih := xN_front (ρ := ρ) (s := s) (ss := ss) (m := m) k
    constructor
    · rintro ⟨x0, p, h1, h2, h3, h4, h5⟩
      obtain ⟨p0, a1, a2, a3, a4⟩ := (ih x0).mp h1
      exact ⟨p0, a1, a2, a3, x0, p, a4, h2, h3, h4, h5⟩
    · rintro ⟨p0, a1, a2, a3, x0, p, a4, h2, h3, h4, h5⟩
      exact ⟨x0, p, (ih x0).mpr ⟨p0, a1, a2, a3, a4⟩, h2, h3, h4, h5⟩
theorem dN_x {ρ : Rv} : ∀ (ln : List Nat) (k m p : Nat), ln.length ≤ 4 → k < ln.length → (dN ρ k ln m p ↔ ∃ x, xN ρ ln m k x ∧ p < 16 ∧ aft ρ 0 x p % 384 / 8 = ln.getD k 0 ∧ 0 < wN ρ (ln.drop (k + 1)) (aft ρ 0 x p))
  | [], k, m, p, _, hk => absurd hk (Nat.not_lt_zero _)
  | s :: ss, 0, m, p, hl, _ => by
    have hl : ss.length + 1 ≤ 4 := hl
    rw [dN_0 (by omega)]
    constructor
    · rintro ⟨h1, h2, h3⟩
      exact ⟨m, rfl, h1, h2, h3⟩
    · rintro ⟨x, h0, h1, h2, h3⟩
      have h0 : x = m := h0
      subst h0
      exact ⟨h1, h2, h3⟩
  | s :: ss, k + 1, m, p, hl, hk => by
    have hl : ss.length + 1 ≤ 4 := hl
    have hk : k < ss.length := Nat.lt_of_succ_lt_succ hk
    rw [dN_s (by omega) hk]
    constructor
    · rintro ⟨p0, h1, h2, h3⟩
      have hw : 0 < wN ρ ss (aft ρ 0 m p0) := by
        obtain ⟨r, q1, q2, -⟩ := h3
        exact wN_ex.mpr ⟨r, q1, q2⟩
      obtain ⟨x, a1, a2, a3, a4⟩ := (dN_x ss k _ p (by omega) hk).mp h3
      exact ⟨x, (xN_front k x).mpr ⟨p0, h1, h2, hw, a1⟩, a2, a3, a4⟩
    · rintro ⟨x, a1, a2, a3, a4⟩
      obtain ⟨p0, h1, h2, h3, h4⟩ := (xN_front k x).mp a1
      exact ⟨p0, h1, h2, (dN_x ss k _ p (by omega) hk).mpr ⟨x, h4, a2, a3, a4⟩⟩

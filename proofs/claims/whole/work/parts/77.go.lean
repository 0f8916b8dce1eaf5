/-! the reference's stroke of the boat -/
theorem rememberJ (N : Nat) (hN : 5 < N) {h : Hp} {B : Nat} (hB : B < 50) (e : h 100 16 = nI B) : K_M_remember_J48 N h = some (hset (hset (hset (hset h 107 (3 * B) (h 101 0)) 107 (3 * B + 1) (h 101 1)) 107 (3 * B + 2) (h 101 2)) 100 16 (nI (B + 1))) := by
  obtain ⟨M, rfl⟩ : ∃ M, N = M + 4 := ⟨N - 4, by omega⟩
  let s1 := hset h 107 (3 * B) (h 101 0)
  let s2 := hset s1 107 (3 * B + 1) (h 101 1)
  let s3 := hset s2 107 (3 * B + 2) (h 101 2)
  have e1 : s1 100 16 = nI B := by simp only [s1]; rw [hset_ne _ _ _ (by decide)]; exact e
  have e2 : s2 100 16 = nI B := by simp only [s2]; rw [hset_ne _ _ _ (by decide)]; exact e1
  have e3 : s3 100 16 = nI B := by simp only [s3]; rw [hset_ne _ _ _ (by decide)]; exact e2
  have f1 : s1 101 = h 101 := by simp only [s1]; rw [hset_ne _ _ _ (by decide)]
  have f2 : s2 101 = h 101 := by simp only [s2]; rw [hset_ne _ _ _ (by decide)]; exact f1
  have st : ∀ (g : Hp) (i : Nat), i < 3 → g 100 16 = nI B → K_M_remember_L50 (M + 4) (nI i) g = some (.inl (nI (i + 1), hset g 107 (3 * B + i) (g 101 i))) := by
    intro g i hi eg
    unfold K_M_remember_L50
    have k3 : (3 : Int32) ≤ nI i ↔ 3 ≤ i := nI_le_iff (a := 3) (by omega) (by omega)
    rw [if_neg (fun z => by have := k3.mp z; omega), gA_nI (by omega) (by omega), eg, show (3 : Int32) = nI 3 from rfl, nI_mul, nI_add, sA_nI (by omega) (by omega), nI_cl (by omega), nm_s, show (1 : Int32) = nI 1 from rfl, nI_add, nm_s]
  have en : ∀ g : Hp, K_M_remember_L50 (M + 4) (nI 3) g = some (.inr g) := fun g => by
    unfold K_M_remember_L50
    rw [if_pos (by decide)]
  have l1 := loopN_s (body := fun z_ : Int32 × Hp => K_M_remember_L50 (M + 4) z_.1 z_.2) (M + 3) (s := (0, h)) (s' := (nI 1, s1)) (st h 0 (by omega) e)
  have l2 := loopN_s (body := fun z_ : Int32 × Hp => K_M_remember_L50 (M + 4) z_.1 z_.2) (M + 2) (s := (nI 1, s1)) (s' := (nI 2, s2)) (by
    show K_M_remember_L50 (M + 4) (nI 1) s1 = _
    rw [st s1 1 (by omega) e1, f1])
  have l3 := loopN_s (body := fun z_ : Int32 × Hp => K_M_remember_L50 (M + 4) z_.1 z_.2) (M + 1) (s := (nI 2, s2)) (s' := (nI 3, s3)) (by
    show K_M_remember_L50 (M + 4) (nI 2) s2 = _
    rw [st s2 2 (by omega) e2, f2])
  have l4 := loopN_t (body := fun z_ : Int32 × Hp => K_M_remember_L50 (M + 4) z_.1 z_.2) M (s := (nI 3, s3)) (en s3)
  unfold K_M_remember_J48
  rw [l1, l2, l3, l4, bd_s]
  show nm (hset s3 100 16 (s3 100 16 + 1)) _ = _
  rw [e3, show (1 : Int32) = nI 1 from rfl, nI_add, nm_s]
theorem rememberM (N : Nat) (hN : 200 < N) {h : Hp} {n : Nat} (hn : n ≤ 50) (e : h 100 16 = nI n) : ∃ h1, K_M_remember N h = some h1 ∧ (∀ r, r ∉ [100, 107] → h1 r = h r) ∧ (∀ f, f ≠ 16 → h1 100 f = h 100 f) ∧ h1 100 16 = nI (min 50 (n + 1)) ∧
    ∀ i c, i < min 50 (n + 1) → c < 3 → h1 107 (3 * i + c) = if i = min 50 (n + 1) - 1 then h 101 c else h 107 (3 * (i + (n - 49)) + c) := by
  have tail : ∀ (g : Hp) (B : Nat), B < 50 → g 100 16 = nI B → g 101 = h 101 → ∃ h1, K_M_remember_J48 N g = some h1 ∧ (∀ r, r ∉ [100, 107] → h1 r = g r) ∧ (∀ f, f ≠ 16 → h1 100 f = g 100 f) ∧ h1 100 16 = nI (B + 1) ∧ ∀ i c, i < B + 1 → c < 3 → h1 107 (3 * i + c) = if i = B then h 101 c else g 107 (3 * i + c) := by
    intro g B hB eg e1
    refine ⟨_, rememberJ N (by omega) hB eg, fun r z => ?_, fun f z => ?_, ?_, fun i c hi hc => ?_⟩
    · rw [hset_ne _ _ _ (ne_of_nm z (by decide)), hset_ne _ _ _ (ne_of_nm z (by decide)), hset_ne _ _ _ (ne_of_nm z (by decide)), hset_ne _ _ _ (ne_of_nm z (by decide))]
    · rw [hset_at, upd_ne _ _ z, hset_ne _ _ _ (by decide), hset_ne _ _ _ (by decide), hset_ne _ _ _ (by decide)]
    · rw [hset_at, upd_at]
    · rw [hset_ne _ _ _ (by decide), hset_at, hset_at, hset_at, e1]
      by_cases q : i = B
      · rw [if_pos q, q]
        have : c = 0 ∨ c = 1 ∨ c = 2 := by omega
        rcases this with z | z | z <;> subst z
        · rw [upd_ne _ _ (by omega), upd_ne _ _ (by omega), Nat.add_zero, upd_at]
        · rw [upd_ne _ _ (by omega), upd_at]
        · rw [upd_at]
      · rw [if_neg q, upd_ne _ _ (by omega), upd_ne _ _ (by omega), upd_ne _ _ (by omega)]
  unfold K_M_remember
  rw [e]
  have k50 : nI n = (50 : Int32) ↔ n = 50 := nI_eq_iff (b := 50) (by omega) (by omega)
  by_cases c : n = 50
  · rw [if_pos (k50.mpr c)]
    let F : Nat → Int32 := fun j => h 107 (j + 3)
    let g := hrow h 107 (fun j => if j < 147 then F j else h 107 j)
    have lp := loopN_for (fun z_ : Int32 × Hp => K_M_remember_L11 N z_.1 z_.2) (fun i => (nI (3 + i), hrow h 107 (fun j => if j < i then F j else h 107 j))) 147 g (fun i hi => by
      show K_M_remember_L11 N (nI (3 + i)) _ = _
      unfold K_M_remember_L11
      have k : (150 : Int32) ≤ nI (3 + i) ↔ 150 ≤ 3 + i := nI_le_iff (a := 150) (by omega) (by omega)
      rw [if_neg (fun z => by have := k.mp z; omega), gA_nI (by omega) (by omega), show (3 : Int32) = nI 3 from rfl, nI_sub (by omega), show 3 + i - 3 = i by omega, sA_nI (by omega) (by omega), nI_cl (by omega), nm_s, show (1 : Int32) = nI 1 from rfl, nI_add, nm_s]
      have : hrow h 107 (fun j => if j < i then F j else h 107 j) 107 (3 + i) = F i := by
        rw [hrow_at, if_neg (by omega), Nat.add_comm]
      dsimp only
      rw [this, hset_fill]
      rfl) (by
      show K_M_remember_L11 N (nI 150) g = _
      unfold K_M_remember_L11
      rw [if_pos (by decide)]) (N := N) (by omega)
    have h0 : ((nI (3 + 0), hrow h 107 (fun j => if j < 0 then F j else h 107 j)) : Int32 × Hp) = ((3 : Int32), h) := by
      rw [hrow_fill0]
      rfl
    rw [h0] at lp
    rw [lp, bd_s]
    have e1 : g 100 16 = nI 50 := by simp only [g]; rw [hrow_ne _ _ (by decide), e, c]
    show ∃ h1, nm (hset g 100 16 (g 100 16 - 1)) _ = _ ∧ _
    rw [e1, show (1 : Int32) = nI 1 from rfl, nI_sub (by omega), nm_s]
    obtain ⟨h1, z1, z2, z3, z4, z5⟩ := tail (hset g 100 16 (nI (50 - 1))) 49 (by omega) (by rw [hset_at, upd_at]) (by rw [hset_ne _ _ _ (by decide)]; simp only [g]; rw [hrow_ne _ _ (by decide)])
    refine ⟨h1, z1, fun r z => ?_, fun f z => ?_, ?_, fun i cc hi hc => ?_⟩
    · rw [z2 r z, hset_ne _ _ _ (ne_of_nm z (by decide))]; simp only [g]; rw [hrow_ne _ _ (ne_of_nm z (by decide))]
    · rw [z3 f z, hset_at, upd_ne _ _ z]; simp only [g]; rw [hrow_ne _ _ (by decide)]
    · rw [z4]; exact congrArg nI (by omega)
    · rw [z5 i cc (by omega) hc]
      by_cases q : i = 49
      · rw [if_pos q, if_pos (by omega)]
      · rw [if_neg q, if_neg (by omega), hset_ne _ _ _ (by decide)]
        simp only [g, F]
        rw [hrow_at, if_pos (by omega)]
        exact congrArg (h 107) (by omega)
  · rw [if_neg (fun z => c (k50.mp z))]
    obtain ⟨h1, z1, z2, z3, z4, z5⟩ := tail h n (by omega) e rfl
    refine ⟨h1, z1, z2, z3, ?_, fun i cc hi hc => ?_⟩
    · rw [z4]; exact congrArg nI (by omega)
    · rw [z5 i cc (by omega) hc]
      by_cases q : i = n
      · rw [if_pos q, if_pos (by omega)]
      · rw [if_neg q, if_neg (by omega)]
        exact congrArg (h 107) (by omega)
theorem hset_comm2 (h : Hp) {r q : Nat} (n : r ≠ q) (k l : Nat) (v w : Int32) : hset (hset h r k v) q l w = hset (hset h q l w) r k v := by
  funext x
  by_cases c : x = q
  · subst c
    rw [hset_at, hset_ne _ _ _ (fun z => n z.symm), hset_ne _ _ _ (fun z => n z.symm), hset_at]
  · rw [hset_ne _ _ _ c]
    by_cases d : x = r
    · subst d
      rw [hset_at, hset_at, hset_ne _ _ _ n]
    · rw [hset_ne _ _ _ d, hset_ne _ _ _ d, hset_ne _ _ _ c]
theorem nx_hset (h : Hp) (d c : Nat) {r : Nat} (n : r ≠ 100) (k : Nat) (v : Int32) : hset (nx h d c) r k v = nx (hset h r k v) d c := by
  unfold nx
  rw [hset_comm2 _ (fun z => n z.symm), hset_comm2 _ (fun z => n z.symm)]
theorem goM {k : Nat} {a : St} {h : Hp} (N : Nat) (hN : 200 < N) (hk : k ≤ 64) (hv : VS k a) (hM : IM a h) (w : rW (sR a) ≠ 0) {p : Nat} (hp : p < 16) : ∃ h1, K_M_go N (nI (p / 4)) (nI (p % 4)) h = some h1 ∧ IM (aP a p) h1 := by
  have hW := hv.1
  have ho := hv.2.2.1.1
  have u := ho.1
  have n := hv.2.2.1.2.1
  have hs := okS_in hW (ho.2.2 w)
  have pt := mo_parts hW u
  have ll := hv.2.2.2.1.1
  have lc := hv.2.2.2.1.2.1
  have mb := hM.2.2.2.2.1
  obtain ⟨g, z1, z2, z3, z4, z5⟩ := rememberM N hN ll hM.2.2.2.2.2.1.1
  have g1 : g 101 = h 101 := z2 _ (by decide)
  have hR : RM (sR a) g := RM_of (z2 _ (by decide)) (z2 _ (by decide)) (z2 _ (by decide)) hM.1
  have em : g 100 12 = nI 0 := by rw [z3 _ (by decide)]; exact hM.2.1
  have sf := strokeFromM hW N (by omega) hR (kn := 0) (by omega) em (s := (sB a).1 / 8) (d := (sB a).1 % 8) (p := p) hs (by omega) hp
  have ap := aft_parts hW (kn := 0) (p := p) (mm := mo (sR a) (sB a)) (n := (sB a).2.1) pt.1.symm (by rw [pt.2.2.2.1]; omega)
  rw [pt.2.2.2.1, pt.2.2.2.2.1] at ap
  let D := dd ((sB a).1 % 8) (trI (sR a) 0 p)
  let S := pu (sR a) ((sB a).1 / 8) D (psI (sR a) 0 p)
  let S2 := if ((sB a).2.1 + 1) % tmv (sR a) = 0 then bl (sR a) S else S
  have hS : inR (sR a) S := (pu_in hW hs).2
  let g2 := hset g 101 2 (nI ((sB a).2.1 + 1))
  have hR2 : RM (sR a) g2 := RM_of (hset_ne _ _ _ (by decide)) (hset_ne _ _ _ (by decide)) (hset_ne _ _ _ (by decide)) hR
  have wa := windAtM hW hR2 (d := D) (n := (sB a).2.1 + 1) hS (by omega)
  let g3 := nx g2 D (cM (sR a) S2)
  let g4 := hset g3 101 0 (nI (cM (sR a) S2))
  let g5 := hset g4 101 1 (nI D)
  have o5 : ∀ r, r ∉ [100, 101, 107] → g5 r = h r := fun r z => by
    simp only [g5, g4, g3, g2]
    rw [hset_ne _ _ _ (ne_of_nm z (by decide)), hset_ne _ _ _ (ne_of_nm z (by decide)), nx_ne _ _ _ (ne_of_nm z (by decide)), hset_ne _ _ _ (ne_of_nm z (by decide)), z2 r (nm_sub (by decide) z)]
  have f5 : ∀ f, f ∉ [13, 14, 16] → g5 100 f = h 100 f := fun f z => by
    simp only [g5, g4, g3, g2]
    rw [hset_ne _ _ _ (by decide), hset_ne _ _ _ (by decide), nx_f _ _ _ (ne_of_nm z (by decide)) (ne_of_nm z (by decide)), hset_ne _ _ _ (by decide), z3 f (ne_of_nm z (by decide))]
  have p5 : ∀ j, 3 ≤ j → g5 101 j = h 101 j := fun j z => by
    simp only [g5, g4, g3, g2]
    rw [hset_at, upd_ne _ _ (by omega), hset_at, upd_ne _ _ (by omega), nx_ne _ _ _ (by decide), hset_at, upd_ne _ _ (by omega), g1]
  refine ⟨g5, ?_, ?_⟩
  · unfold K_M_go
    rw [z1, bd_s, gA_lit (x := 0) (i := 0) rfl (by omega) (by omega), g1, mb.1, gA_lit (x := 1) (i := 1) rfl (by omega) (by omega), show h 101 1 = _ from mb.2.1, sf, bd_s, nx_ne _ _ _ (by decide), g1, gA_lit (x := 2) (i := 2) rfl (by omega) (by omega), show h 101 2 = _ from mb.2.2.1, show (2 : Int32) = nI 2 from rfl, sA_nI (by omega) (by omega), nI_cl (by omega), show (1 : Int32) = nI 1 from rfl, nI_add, nx_hset _ _ _ (by decide), nm_s]
    show gA 12 (nx g2 D (cM (sR a) S) 101) (nI 2) (fun v38 => bd (K_M_windAt v38 (nx g2 D (cM (sR a) S))) _) = _
    rw [gA_nI (by omega) (by omega), nx_ne _ _ _ (by decide), show g2 101 2 = nI ((sB a).2.1 + 1) from by simp only [g2]; rw [hset_at, upd_at], wa, bd_s, show (0 : Int32) = nI 0 from rfl, sA_nI (by omega) (by omega), nI_cl (by omega), nx_13, nm_s]
    show sA 12 (nI 1) (nm (hset g4 101 (nI 1).toNatClampNeg (g4 100 14)) _) = _
    rw [sA_nI (by omega) (by omega), nI_cl (by omega), show g4 100 14 = nI D from by simp only [g4, g3]; rw [hset_ne _ _ _ (by decide), nx_14], nm_s]
  · have ux : aft (sR a) 0 (mo (sR a) (sB a)) p % 384 / 8 = S2 := ap.1
    have uy : aft (sR a) 0 (mo (sR a) (sB a)) p % 384 % 8 = D := by rw [show aft (sR a) 0 (mo (sR a) (sB a)) p % 384 % 8 = aft (sR a) 0 (mo (sR a) (sB a)) p % 8 by omega]; exact ap.2.1
    refine IM_up hM [101, 107] [16] (fun r hr z => o5 r (fun q => ?_)) (fun f hf z => f5 f (fun q => ?_)) (c2 := ?_) (c5 := .inr ⟨?_, ?_, ?_, ?_⟩) (c6 := .inr ⟨?_, fun j hj => ?_⟩) (c9 := .inr (mI_of ?_ (fun j hj => p5 _ (by omega)) hM.2.2.2.2.2.2.2.2.1)) (c10 := .inr (mI_of ?_ (fun j hj => p5 _ (by omega)) hM.2.2.2.2.2.2.2.2.2))
    · have : r ≠ 100 := ne_of_m hr (by decide)
      simp only [List.mem_cons, List.not_mem_nil, or_false] at q z
      omega
    · revert hf z q; revert f; decide
    · rw [f5 _ (by decide)]; exact hM.2.1
    · show g5 101 0 = nI (cM _ (aft (sR a) 0 (mo (sR a) (sB a)) p % 384 / 8))
      rw [ux]; simp only [g5, g4]; rw [hset_at, upd_ne _ _ (by decide), hset_at, upd_at]; rfl
    · show g5 101 1 = nI (aft (sR a) 0 (mo (sR a) (sB a)) p % 384 % 8)
      rw [uy]; simp only [g5]; rw [hset_at, upd_at]
    · show g5 101 2 = nI ((sB a).2.1 + 1)
      simp only [g5, g4, g3, g2]; rw [hset_at, upd_ne _ _ (by decide), hset_at, upd_ne _ _ (by decide), nx_ne _ _ _ (by decide), hset_at, upd_at]
    · rw [show (0 + 3) = 3 from rfl, p5 3 (by omega)]; exact mb.2.2.2
    · show g5 100 16 = nI ((_ :: sL a).take 50).length
      rw [take_len]
      simp only [g5, g4, g3, g2]; rw [hset_ne _ _ _ (by decide), hset_ne _ _ _ (by decide), nx_f _ _ _ (by decide) (by decide), hset_ne _ _ _ (by decide), z4]
    · have q : (sL (aP a p)).length = min 50 ((sL a).length + 1) := take_len
      have r107 : g5 107 = g 107 := by simp only [g5, g4, g3, g2]; rw [hset_ne _ _ _ (by decide), hset_ne _ _ _ (by decide), nx_ne _ _ _ (by decide), hset_ne _ _ _ (by decide)]
      have hj' : j < min 50 ((sL a).length + 1) := by omega
      rw [q, r107]
      show _ = nI (cM _ ((((sB a).1 :: sL a).take 50).getD j 0 / 8)) ∧ _ = nI ((((sB a).1 :: sL a).take 50).getD j 0 % 8) ∧ _ = nI ((sB a).2.1 + 1 - 1 - j)
      rw [take_get (by omega)]
      have y0 := z5 (min 50 ((sL a).length + 1) - 1 - j) 0 (by omega) (by omega)
      have y1 := z5 (min 50 ((sL a).length + 1) - 1 - j) 1 (by omega) (by omega)
      have y2 := z5 (min 50 ((sL a).length + 1) - 1 - j) 2 (by omega) (by omega)
      rw [Nat.add_zero] at y0
      rw [y0, y1, y2]
      by_cases c : j = 0
      · subst c
        rw [if_pos rfl, if_pos (by omega), if_pos (by omega), if_pos (by omega)]
        exact ⟨mb.1, mb.2.1, mb.2.2.1⟩
      · rw [if_neg c, if_neg (by omega), if_neg (by omega), if_neg (by omega)]
        have m := hM.2.2.2.2.2.1.2 (j - 1) (by omega)
        have ei : min 50 ((sL a).length + 1) - 1 - j + ((sL a).length - 49) = (sL a).length - 1 - (j - 1) := by omega
        rw [ei, Nat.add_zero]
        refine ⟨m.1, m.2.1, ?_⟩
        rw [m.2.2]
        exact congrArg nI (by omega)
    · rw [o5 _ (by decide)]
    · rw [o5 _ (by decide)]

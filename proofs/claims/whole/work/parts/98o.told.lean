/-! strengths, boat, goal, wind -/
def M_str (N : Nat) (h87 : Hp) : Option Hp := bd2 (K_M_takeNumber N 1 9 h87) <| fun v116 h116 => sA 24 14 <| nm (hset h116 104 (Int32.toNatClampNeg 14) v116) <| fun h119 => bd2 (K_M_takeNumber N 1 9 h119) <| fun v130 h130 => sA 24 15 <| nm (hset h130 104 (Int32.toNatClampNeg 15) v130) <| fun h133 => bd2 (K_M_takeNumber N 1 20 h133) <| fun v144 h144 => sA 24 16 <| nm (hset h144 104 (Int32.toNatClampNeg 16) v144) <| fun h147 => bd2 (K_M_takeNumber N 1 20 h147) <| fun v158 h158 => sA 24 17 <| nm (hset h158 104 (Int32.toNatClampNeg 17) v158) <| fun h161 => some h161
def M_boat (N : Nat) (h87 : Hp) : Option Hp := bd2 (K_M_takeSquare N h87) <| fun v177 h177 => sA 24 18 <| nm (hset h177 104 (Int32.toNatClampNeg 18) v177) <| fun h180 => bd2 (K_M_takeNumber N 0 7 h180) <| fun v191 h191 => sA 24 19 <| nm (hset h191 104 (Int32.toNatClampNeg 19) v191) <| fun h194 => some h194
def M_goal (N : Nat) (h87 : Hp) : Option Hp := bd2 (K_M_takeSquare N h87) <| fun v210 h210 => sA 24 20 <| nm (hset h210 104 (Int32.toNatClampNeg 20) v210) <| fun h213 => bd2 (K_M_takeNumber N 0 8 h213) <| fun v224 h224 => sA 24 21 <| nm (hset h224 104 (Int32.toNatClampNeg 21) v224) <| fun h227 => some h227
def M_wind (N : Nat) (h87 : Hp) : Option Hp := bd2 (K_M_takeNumber N 0 3 h87) <| fun v245 h245 => sA 24 22 <| nm (hset h245 104 (Int32.toNatClampNeg 22) v245) <| fun h248 => bd2 (K_M_takeNumber N 1 9 h248) <| fun v259 h259 => sA 24 23 <| nm (hset h259 104 (Int32.toNatClampNeg 23) v259) <| fun h262 => some h262
def SS (tx : List Nat) (P0 : Int32) (ρ : Rv) (bt : Prop) (F : Nat) (P : Int32) (p : Nat) (g f : Hp) : Prop := JJ tx F P p g f ∧ (F = 0 → P = P0 ∧ RC ρ g ∧ RH ρ bt f)
theorem RC_N {ρ : Rv} {g g' : Hp} (e : frN g g') (h : RC ρ g) : RC ρ g' := by
  unfold RC at h ⊢
  rw [e.1 10 (by decide), e.1 11 (by decide), e.1 12 (by decide)]
  exact h
theorem RH_M {ρ : Rv} {bt : Prop} {f f' : Hp} (e : frM f f') (h : RH ρ bt f) : RH ρ bt f' := RH_of (e.1 103 (by decide)) (e.1 104 (by decide)) (e.1 105 (by decide)) h
theorem stepS {tx : List Nat} (hX : okX tx) {P0 : Int32} {ρ : Rv} {bt : Prop} {F : Nat} {P : Int32} {p : Nat} {g f : Hp} (h : SS tx P0 ρ bt F P p g f) (N : Nat) (hN : 200 < N) {lo hi : Nat} (hlh : lo ≤ hi) (hhi : hi ≤ 1000) (x y : Nat) (hy : 12 ≤ y) (ρ' : Nat → Rv) (hC : ∀ g w, RC ρ g → RC (ρ' w) (hset g 10 x (nI w))) (hH : ∀ f w, RH ρ bt f → RH (ρ' w) bt (hset f 104 y (nI w))) : ∃ w v' g' f' F' P' p', K_Reader_readNumber N (nI lo) (nI hi) g = some (nI w, g') ∧ K_M_takeNumber N (nI lo) (nI hi) f = some (v', f') ∧ (lo ≤ w ∧ w ≤ hi) ∧ frK g (hset g' 10 x (nI w)) ∧ frR f (hset f' 104 y v') ∧ SS tx P0 (ρ' w) bt F' P' p' (hset g' 10 x (nI w)) (hset f' 104 y v') := by
  obtain ⟨w, v', g', f', F', P', p', a1, a2, a3, a4, a5, a6, a7, a8, a9⟩ := numJ hX h.1 N hN hlh hhi
  refine ⟨w, v', g', f', F', P', p', a1, a2, a6, frK_set (frK_N a4) (by decide) _ _, frR_set (frR_M a5) (by decide) _ _ ⟨fun z => absurd z (by decide), fun _ => hy, fun z => absurd z (by decide)⟩, JJ_w a3 _ _ _ _, fun z => ?_⟩
  obtain ⟨b1, b2, b3⟩ := a8 z
  obtain ⟨c1, c2, c3⟩ := h.2 b1
  rw [b3]
  exact ⟨b2.trans c1, hC _ _ (RC_N a4 c2), hH _ _ (RH_M a5 c3)⟩
theorem RC_s2 {ρ : Rv} {g : Hp} (w : Nat) (h : RC ρ g) : RC (sv ρ 2 w) (hset g 10 3 (nI w)) := by
  obtain ⟨h0, h1, h2, h3, h4, h5, h6, h7, h8, h9, h10, h11, h12⟩ := h
  exact ⟨by rw [hset_at, upd_ne _ _ (by decide)]; exact h0, by rw [hset_at, upd_ne _ _ (by decide)]; exact h1, by rw [hset_at, upd_at]; rfl, by rw [hset_at, upd_ne _ _ (by decide)]; exact h3, by rw [hset_at, upd_ne _ _ (by decide)]; exact h4, by rw [hset_at, upd_ne _ _ (by decide)]; exact h5, by rw [hset_at, upd_ne _ _ (by decide)]; exact h6, by rw [hset_at, upd_ne _ _ (by decide)]; exact h7, by rw [hset_at, upd_ne _ _ (by decide)]; exact h8, by rw [hset_at, upd_ne _ _ (by decide)]; exact h9, by rw [hset_at, upd_ne _ _ (by decide)]; exact h10, fun s hs => by rw [hset_ne _ _ _ (by decide)]; exact h11 s hs, fun s hs => by rw [hset_ne _ _ _ (by decide)]; exact h12 s hs⟩
theorem RC_s3 {ρ : Rv} {g : Hp} (w : Nat) (h : RC ρ g) : RC (sv ρ 3 w) (hset g 10 4 (nI w)) := by
  obtain ⟨h0, h1, h2, h3, h4, h5, h6, h7, h8, h9, h10, h11, h12⟩ := h
  exact ⟨by rw [hset_at, upd_ne _ _ (by decide)]; exact h0, by rw [hset_at, upd_ne _ _ (by decide)]; exact h1, by rw [hset_at, upd_ne _ _ (by decide)]; exact h2, by rw [hset_at, upd_at]; rfl, by rw [hset_at, upd_ne _ _ (by decide)]; exact h4, by rw [hset_at, upd_ne _ _ (by decide)]; exact h5, by rw [hset_at, upd_ne _ _ (by decide)]; exact h6, by rw [hset_at, upd_ne _ _ (by decide)]; exact h7, by rw [hset_at, upd_ne _ _ (by decide)]; exact h8, by rw [hset_at, upd_ne _ _ (by decide)]; exact h9, by rw [hset_at, upd_ne _ _ (by decide)]; exact h10, fun s hs => by rw [hset_ne _ _ _ (by decide)]; exact h11 s hs, fun s hs => by rw [hset_ne _ _ _ (by decide)]; exact h12 s hs⟩
theorem RC_s4 {ρ : Rv} {g : Hp} (w : Nat) (h : RC ρ g) : RC (sv ρ 4 w) (hset g 10 5 (nI w)) := by
  obtain ⟨h0, h1, h2, h3, h4, h5, h6, h7, h8, h9, h10, h11, h12⟩ := h
  exact ⟨by rw [hset_at, upd_ne _ _ (by decide)]; exact h0, by rw [hset_at, upd_ne _ _ (by decide)]; exact h1, by rw [hset_at, upd_ne _ _ (by decide)]; exact h2, by rw [hset_at, upd_ne _ _ (by decide)]; exact h3, by rw [hset_at, upd_at]; rfl, by rw [hset_at, upd_ne _ _ (by decide)]; exact h5, by rw [hset_at, upd_ne _ _ (by decide)]; exact h6, by rw [hset_at, upd_ne _ _ (by decide)]; exact h7, by rw [hset_at, upd_ne _ _ (by decide)]; exact h8, by rw [hset_at, upd_ne _ _ (by decide)]; exact h9, by rw [hset_at, upd_ne _ _ (by decide)]; exact h10, fun s hs => by rw [hset_ne _ _ _ (by decide)]; exact h11 s hs, fun s hs => by rw [hset_ne _ _ _ (by decide)]; exact h12 s hs⟩
theorem RC_s5 {ρ : Rv} {g : Hp} (w : Nat) (h : RC ρ g) : RC (sv ρ 5 w) (hset g 10 6 (nI w)) := by
  obtain ⟨h0, h1, h2, h3, h4, h5, h6, h7, h8, h9, h10, h11, h12⟩ := h
  exact ⟨by rw [hset_at, upd_ne _ _ (by decide)]; exact h0, by rw [hset_at, upd_ne _ _ (by decide)]; exact h1, by rw [hset_at, upd_ne _ _ (by decide)]; exact h2, by rw [hset_at, upd_ne _ _ (by decide)]; exact h3, by rw [hset_at, upd_ne _ _ (by decide)]; exact h4, by rw [hset_at, upd_at]; rfl, by rw [hset_at, upd_ne _ _ (by decide)]; exact h6, by rw [hset_at, upd_ne _ _ (by decide)]; exact h7, by rw [hset_at, upd_ne _ _ (by decide)]; exact h8, by rw [hset_at, upd_ne _ _ (by decide)]; exact h9, by rw [hset_at, upd_ne _ _ (by decide)]; exact h10, fun s hs => by rw [hset_ne _ _ _ (by decide)]; exact h11 s hs, fun s hs => by rw [hset_ne _ _ _ (by decide)]; exact h12 s hs⟩
theorem iI_pred (w : Nat) : iI (((w + 1 : Nat) : Int) - 1) = nI w := by
  rw [show (((w + 1 : Nat) : Int) - 1) = (w : Int) by omega, nI_iI]
theorem RC_s8 {ρ : Rv} {g : Hp} (w : Nat) (h : RC ρ g) : RC (sv ρ 8 (w + 1)) (hset g 10 10 (nI w)) := by
  obtain ⟨h0, h1, h2, h3, h4, h5, h6, h7, h8, h9, h10, h11, h12⟩ := h
  exact ⟨by rw [hset_at, upd_ne _ _ (by decide)]; exact h0, by rw [hset_at, upd_ne _ _ (by decide)]; exact h1, by rw [hset_at, upd_ne _ _ (by decide)]; exact h2, by rw [hset_at, upd_ne _ _ (by decide)]; exact h3, by rw [hset_at, upd_ne _ _ (by decide)]; exact h4, by rw [hset_at, upd_ne _ _ (by decide)]; exact h5, by rw [hset_at, upd_ne _ _ (by decide)]; exact h6, by rw [hset_at, upd_ne _ _ (by decide)]; exact h7, by rw [hset_at, upd_ne _ _ (by decide)]; exact h8, by rw [hset_at, upd_at]; exact (iI_pred w).symm, by rw [hset_at, upd_ne _ _ (by decide)]; exact h10, fun s hs => by rw [hset_ne _ _ _ (by decide)]; exact h11 s hs, fun s hs => by rw [hset_ne _ _ _ (by decide)]; exact h12 s hs⟩
theorem RC_s9 {ρ : Rv} {g : Hp} (w : Nat) (h : RC ρ g) : RC (sv ρ 9 w) (hset g 10 11 (nI w)) := by
  obtain ⟨h0, h1, h2, h3, h4, h5, h6, h7, h8, h9, h10, h11, h12⟩ := h
  exact ⟨by rw [hset_at, upd_ne _ _ (by decide)]; exact h0, by rw [hset_at, upd_ne _ _ (by decide)]; exact h1, by rw [hset_at, upd_ne _ _ (by decide)]; exact h2, by rw [hset_at, upd_ne _ _ (by decide)]; exact h3, by rw [hset_at, upd_ne _ _ (by decide)]; exact h4, by rw [hset_at, upd_ne _ _ (by decide)]; exact h5, by rw [hset_at, upd_ne _ _ (by decide)]; exact h6, by rw [hset_at, upd_ne _ _ (by decide)]; exact h7, by rw [hset_at, upd_ne _ _ (by decide)]; exact h8, by rw [hset_at, upd_ne _ _ (by decide)]; exact h9, by rw [hset_at, upd_at]; rfl, fun s hs => by rw [hset_ne _ _ _ (by decide)]; exact h11 s hs, fun s hs => by rw [hset_ne _ _ _ (by decide)]; exact h12 s hs⟩
theorem RC_s10 {ρ : Rv} {g : Hp} (w : Nat) (h : RC ρ g) : RC (sv ρ 10 w) (hset g 10 7 (nI w)) := by
  obtain ⟨h0, h1, h2, h3, h4, h5, h6, h7, h8, h9, h10, h11, h12⟩ := h
  exact ⟨by rw [hset_at, upd_ne _ _ (by decide)]; exact h0, by rw [hset_at, upd_ne _ _ (by decide)]; exact h1, by rw [hset_at, upd_ne _ _ (by decide)]; exact h2, by rw [hset_at, upd_ne _ _ (by decide)]; exact h3, by rw [hset_at, upd_ne _ _ (by decide)]; exact h4, by rw [hset_at, upd_ne _ _ (by decide)]; exact h5, by rw [hset_at, upd_at]; rfl, by rw [hset_at, upd_ne _ _ (by decide)]; exact h7, by rw [hset_at, upd_ne _ _ (by decide)]; exact h8, by rw [hset_at, upd_ne _ _ (by decide)]; exact h9, by rw [hset_at, upd_ne _ _ (by decide)]; exact h10, fun s hs => by rw [hset_ne _ _ _ (by decide)]; exact h11 s hs, fun s hs => by rw [hset_ne _ _ _ (by decide)]; exact h12 s hs⟩
/-- the reference's word y set to one of the river's numbers i -/
theorem RH_s {ρ : Rv} {bt : Prop} {f : Hp} (w : Nat) (h : RH ρ bt f) : RH (sv ρ 2 w) bt (hset f 104 14 (nI w)) ∧ RH (sv ρ 3 w) bt (hset f 104 15 (nI w)) ∧ RH (sv ρ 4 w) bt (hset f 104 16 (nI w)) ∧ RH (sv ρ 5 w) bt (hset f 104 17 (nI w)) ∧ RH (sv ρ 8 (w + 1)) bt (hset f 104 22 (nI w)) ∧ RH (sv ρ 9 w) bt (hset f 104 23 (nI w)) := by
  obtain ⟨⟨h0, h1, h2, h3, h4, h5⟩, ⟨h6, h7⟩, ⟨h8, h9⟩, h10, h11, h12, h13⟩ := h
  have k3 : ∀ y, (hset f 104 y (nI w)) 103 = f 103 := fun y => hset_ne _ _ _ (by decide)
  have k5 : ∀ y, (hset f 104 y (nI w)) 105 = f 105 := fun y => hset_ne _ _ _ (by decide)
  have z : ∀ y, y ≠ 18 → y ≠ 19 → (hset f 104 y (nI w)) 104 18 = f 104 18 ∧ (hset f 104 y (nI w)) 104 19 = f 104 19 := fun y a b => ⟨by rw [hset_at, upd_ne _ _ (fun z => a z.symm)], by rw [hset_at, upd_ne _ _ (fun z => b z.symm)]⟩
  have n : ∀ y j, j ≠ y → (hset f 104 y (nI w)) 104 j = f 104 j := fun y j a => by rw [hset_at, upd_ne _ _ a]
  have m : ∀ y, (hset f 104 y (nI w)) 104 y = nI w := fun y => by rw [hset_at, upd_at]
  refine ⟨?_, ?_, ?_, ?_, ?_, ?_⟩
  · exact ⟨⟨(n _ _ (by decide)).trans h0, (n _ _ (by decide)).trans h1, m _, (n _ _ (by decide)).trans h3, (n _ _ (by decide)).trans h4, (n _ _ (by decide)).trans h5⟩, ⟨(n _ _ (by decide)).trans h6, (n _ _ (by decide)).trans h7⟩, ⟨(n _ _ (by decide)).trans h8, (n _ _ (by decide)).trans h9⟩, fun s hs => by rw [k3]; exact h10 s hs, fun j hj => by rw [k5]; exact h11 j hj, fun b => by rw [(z _ (by decide) (by decide)).1, (z _ (by decide) (by decide)).2]; exact h12 b, fun b => by rw [(z _ (by decide) (by decide)).1, (z _ (by decide) (by decide)).2]; exact h13 b⟩
  · exact ⟨⟨(n _ _ (by decide)).trans h0, (n _ _ (by decide)).trans h1, (n _ _ (by decide)).trans h2, m _, (n _ _ (by decide)).trans h4, (n _ _ (by decide)).trans h5⟩, ⟨(n _ _ (by decide)).trans h6, (n _ _ (by decide)).trans h7⟩, ⟨(n _ _ (by decide)).trans h8, (n _ _ (by decide)).trans h9⟩, fun s hs => by rw [k3]; exact h10 s hs, fun j hj => by rw [k5]; exact h11 j hj, fun b => by rw [(z _ (by decide) (by decide)).1, (z _ (by decide) (by decide)).2]; exact h12 b, fun b => by rw [(z _ (by decide) (by decide)).1, (z _ (by decide) (by decide)).2]; exact h13 b⟩
  · exact ⟨⟨(n _ _ (by decide)).trans h0, (n _ _ (by decide)).trans h1, (n _ _ (by decide)).trans h2, (n _ _ (by decide)).trans h3, m _, (n _ _ (by decide)).trans h5⟩, ⟨(n _ _ (by decide)).trans h6, (n _ _ (by decide)).trans h7⟩, ⟨(n _ _ (by decide)).trans h8, (n _ _ (by decide)).trans h9⟩, fun s hs => by rw [k3]; exact h10 s hs, fun j hj => by rw [k5]; exact h11 j hj, fun b => by rw [(z _ (by decide) (by decide)).1, (z _ (by decide) (by decide)).2]; exact h12 b, fun b => by rw [(z _ (by decide) (by decide)).1, (z _ (by decide) (by decide)).2]; exact h13 b⟩
  · exact ⟨⟨(n _ _ (by decide)).trans h0, (n _ _ (by decide)).trans h1, (n _ _ (by decide)).trans h2, (n _ _ (by decide)).trans h3, (n _ _ (by decide)).trans h4, m _⟩, ⟨(n _ _ (by decide)).trans h6, (n _ _ (by decide)).trans h7⟩, ⟨(n _ _ (by decide)).trans h8, (n _ _ (by decide)).trans h9⟩, fun s hs => by rw [k3]; exact h10 s hs, fun j hj => by rw [k5]; exact h11 j hj, fun b => by rw [(z _ (by decide) (by decide)).1, (z _ (by decide) (by decide)).2]; exact h12 b, fun b => by rw [(z _ (by decide) (by decide)).1, (z _ (by decide) (by decide)).2]; exact h13 b⟩
  · exact ⟨⟨(n _ _ (by decide)).trans h0, (n _ _ (by decide)).trans h1, (n _ _ (by decide)).trans h2, (n _ _ (by decide)).trans h3, (n _ _ (by decide)).trans h4, (n _ _ (by decide)).trans h5⟩, ⟨(n _ _ (by decide)).trans h6, (n _ _ (by decide)).trans h7⟩, ⟨(m _).trans (iI_pred w).symm, (n _ _ (by decide)).trans h9⟩, fun s hs => by rw [k3]; exact h10 s hs, fun j hj => by rw [k5]; exact h11 j hj, fun b => by rw [(z _ (by decide) (by decide)).1, (z _ (by decide) (by decide)).2]; exact h12 b, fun b => by rw [(z _ (by decide) (by decide)).1, (z _ (by decide) (by decide)).2]; exact h13 b⟩
  · exact ⟨⟨(n _ _ (by decide)).trans h0, (n _ _ (by decide)).trans h1, (n _ _ (by decide)).trans h2, (n _ _ (by decide)).trans h3, (n _ _ (by decide)).trans h4, (n _ _ (by decide)).trans h5⟩, ⟨(n _ _ (by decide)).trans h6, (n _ _ (by decide)).trans h7⟩, ⟨(n _ _ (by decide)).trans h8, m _⟩, fun s hs => by rw [k3]; exact h10 s hs, fun j hj => by rw [k5]; exact h11 j hj, fun b => by rw [(z _ (by decide) (by decide)).1, (z _ (by decide) (by decide)).2]; exact h12 b, fun b => by rw [(z _ (by decide) (by decide)).1, (z _ (by decide) (by decide)).2]; exact h13 b⟩
theorem sA_lit {α : Type} {n i : Nat} {x : Int32} {k : Option α} (hx : x = nI i) (h : i < n) (hn : i < 2147483648) : sA n x k = k := by rw [hx, sA_nI h hn]
theorem strJ {tx : List Nat} (hX : okX tx) {P : Int32} {p : Nat} {g f : Hp} (h : JJ tx 0 P p g f) (N : Nat) (hN : 200 < N) {ρ : Rv} (hW : WF ρ) (h0 : rW ρ ≠ 0) (hR : RC ρ g) {bt : Prop} (hM : RH ρ bt f) : ∃ g' f', K_Reader_readStrengths N g = some g' ∧ M_str N f = some f' ∧ CE tx P bt g f g' f' := by
  obtain ⟨w1, v1, g1, f1, F1, P1, p1, a1, a2, a3, a4, a5, a6⟩ := stepS hX (P0 := P) (bt := bt) ⟨h, fun _ => ⟨rfl, hR, hM⟩⟩ N hN (lo := 1) (hi := 9) (by decide) (by decide) 3 14 (by decide) (fun w => sv ρ 2 w) (fun g w hh => RC_s2 w hh) (fun f w hh => (RH_s w hh).1)
  obtain ⟨w2, v2, g2, f2, F2, P2, p2, b1, b2, b3, b4, b5, b6⟩ := stepS hX a6 N hN (lo := 1) (hi := 9) (by decide) (by decide) 4 15 (by decide) (fun w => sv (sv ρ 2 w1) 3 w) (fun g w hh => RC_s3 w hh) (fun f w hh => (RH_s w hh).2.1)
  obtain ⟨w3, v3, g3, f3, F3, P3, p3, c1, c2, c3, c4, c5, c6⟩ := stepS hX b6 N hN (lo := 1) (hi := 20) (by decide) (by decide) 5 16 (by decide) (fun w => sv (sv (sv ρ 2 w1) 3 w2) 4 w) (fun g w hh => RC_s4 w hh) (fun f w hh => (RH_s w hh).2.2.1)
  obtain ⟨w4, v4, g4, f4, F4, P4, p4, d1, d2, d3, d4, d5, d6⟩ := stepS hX c6 N hN (lo := 1) (hi := 20) (by decide) (by decide) 6 17 (by decide) (fun w => sv (sv (sv (sv ρ 2 w1) 3 w2) 4 w3) 5 w) (fun g w hh => RC_s5 w hh) (fun f w hh => (RH_s w hh).2.2.2.1)
  have a1 : K_Reader_readNumber N 1 9 g = some (nI w1, g1) := a1
  have b1 : K_Reader_readNumber N 1 9 _ = some (nI w2, g2) := b1
  have c1 : K_Reader_readNumber N 1 20 _ = some (nI w3, g3) := c1
  have d1 : K_Reader_readNumber N 1 20 _ = some (nI w4, g4) := d1
  have a2 : K_M_takeNumber N 1 9 f = some (v1, f1) := a2
  have b2 : K_M_takeNumber N 1 9 _ = some (v2, f2) := b2
  have c2 : K_M_takeNumber N 1 20 _ = some (v3, f3) := c2
  have d2 : K_M_takeNumber N 1 20 _ = some (v4, f4) := d2
  refine ⟨hset g4 10 6 (nI w4), hset f4 104 17 v4, ?_, ?_, frK_trans (frK_trans (frK_trans a4 b4) c4) d4, frR_trans (frR_trans (frR_trans a5 b5) c5) d5, F4, P4, p4, d6.1, fun z => ?_⟩
  · unfold K_Reader_readStrengths
    rw [a1, bd2_s, nm_s, b1, bd2_s, nm_s, c1, bd2_s, nm_s, d1, bd2_s, nm_s]
  · unfold M_str
    rw [a2, bd2_s, sA_lit (x := 14) (i := 14) rfl (by decide) (by decide), nm_s, show Int32.toNatClampNeg 14 = 14 from rfl, b2, bd2_s, sA_lit (x := 15) (i := 15) rfl (by decide) (by decide), nm_s, show Int32.toNatClampNeg 15 = 15 from rfl, c2, bd2_s, sA_lit (x := 16) (i := 16) rfl (by decide) (by decide), nm_s, show Int32.toNatClampNeg 16 = 16 from rfl, d2, bd2_s, sA_lit (x := 17) (i := 17) rfl (by decide) (by decide), nm_s, show Int32.toNatClampNeg 17 = 17 from rfl]
  · obtain ⟨e1, e2, e3⟩ := d6.2 z
    obtain ⟨q0, q1, q2, q3, q4, q5, q6, q7⟩ := hW
    exact ⟨e1, sv (sv (sv (sv ρ 2 w1) 3 w2) 4 w3) 5 w4, ⟨q0, q1, q2, a3, b3, c3, d3, q7⟩, h0, e2, e3⟩
theorem windJ {tx : List Nat} (hX : okX tx) {P : Int32} {p : Nat} {g f : Hp} (h : JJ tx 0 P p g f) (N : Nat) (hN : 200 < N) {ρ : Rv} (hW : WF ρ) (h0 : rW ρ ≠ 0) (hR : RC ρ g) {bt : Prop} (hM : RH ρ bt f) : ∃ g' f', K_Reader_readWind N g = some g' ∧ M_wind N f = some f' ∧ CE tx P bt g f g' f' := by
  obtain ⟨w1, v1, g1, f1, F1, P1, p1, a1, a2, a3, a4, a5, a6⟩ := stepS hX (P0 := P) (bt := bt) ⟨h, fun _ => ⟨rfl, hR, hM⟩⟩ N hN (lo := 0) (hi := 3) (by decide) (by decide) 10 22 (by decide) (fun w => sv ρ 8 (w + 1)) (fun g w hh => RC_s8 w hh) (fun f w hh => (RH_s w hh).2.2.2.2.1)
  obtain ⟨w2, v2, g2, f2, F2, P2, p2, b1, b2, b3, b4, b5, b6⟩ := stepS hX a6 N hN (lo := 1) (hi := 9) (by decide) (by decide) 11 23 (by decide) (fun w => sv (sv ρ 8 (w1 + 1)) 9 w) (fun g w hh => RC_s9 w hh) (fun f w hh => (RH_s w hh).2.2.2.2.2)
  have a1 : K_Reader_readNumber N 0 3 g = some (nI w1, g1) := a1
  have b1 : K_Reader_readNumber N 1 9 _ = some (nI w2, g2) := b1
  have a2 : K_M_takeNumber N 0 3 f = some (v1, f1) := a2
  have b2 : K_M_takeNumber N 1 9 _ = some (v2, f2) := b2
  refine ⟨hset g2 10 11 (nI w2), hset f2 104 23 v2, ?_, ?_, frK_trans a4 b4, frR_trans a5 b5, F2, P2, p2, b6.1, fun z => ?_⟩
  · unfold K_Reader_readWind
    rw [a1, bd2_s, nm_s, b1, bd2_s, nm_s]
  · unfold M_wind
    rw [a2, bd2_s, sA_lit (x := 22) (i := 22) rfl (by decide) (by decide), nm_s, show Int32.toNatClampNeg 22 = 22 from rfl, b2, bd2_s, sA_lit (x := 23) (i := 23) rfl (by decide) (by decide), nm_s, show Int32.toNatClampNeg 23 = 23 from rfl]
  · obtain ⟨e1, e2, e3⟩ := b6.2 z
    obtain ⟨q0, q1, q2, q3, q4, q5, q6, q7, q8, q9, q10, q11, q12, q13, q14, q15, q16, q17⟩ := hW
    refine ⟨e1, sv (sv ρ 8 (w1 + 1)) 9 w2, ⟨q0, q1, q2, q3, q4, q5, q6, q7, q8, ?_, b3.2, ?_, q12, q13, q14, q15, q16, q17⟩, h0, e2, e3⟩
    · show w1 + 1 ≤ 4
      omega
    · show w1 + 1 = 0 ↔ w2 = 0
      omega
theorem boatJ {tx : List Nat} (hX : okX tx) {P : Int32} {p : Nat} {g f : Hp} (h : JJ tx 0 P p g f) (N : Nat) (hN : 200 < N) {ρ : Rv} (hW : WF ρ) (h0 : rW ρ ≠ 0) (hR : RC ρ g) {bt : Prop} (hM : RH ρ bt f) : ∃ g' f', K_Reader_readBoat N g = some g' ∧ M_boat N f = some f' ∧ CE tx P True g f g' f' := by
  obtain ⟨s, y, g1, f1, F1, P1, p1, a1, a2, a3, a4, a5, a6, a7⟩ := squareJ hX h N hN hW h0 hR hM
  have a3 : JJ tx F1 P1 p1 g1 (hset f1 104 18 y) := JJ_of rfl rfl (hset_ne _ _ _ (by decide)) (hset_ne _ _ _ (by decide)) a3
  obtain ⟨w, v, g2, f2, F2, P2, p2, b1, b2, b3, b4, b5, b6, b7, b8, b9⟩ := numJ hX a3 N hN (lo := 0) (hi := 7) (by decide) (by decide)
  have b1 : K_Reader_readNumber N 0 7 g1 = some (nI w, g2) := b1
  have b2 : K_M_takeNumber N 0 7 (hset f1 104 18 y) = some (v, f2) := b2
  refine ⟨hset g2 10 7 (nI (s * 8 + w)), hset f2 104 19 v, ?_, ?_, frK_set (frK_N (frN_trans a4 b4)) (by decide) _ _, frR_set (frR_trans (frR_set (frR_M a5) (by decide) _ _ (by decide)) (frR_M b5)) (by decide) _ _ (by decide), F2, P2, p2, JJ_w b3 _ _ _ _, fun z => ?_⟩
  · unfold K_Reader_readBoat
    rw [a1, bd2_s, b1, bd2_s, show nI s * 8 + nI w = nI (s * 8 + w) by rw [show (8 : Int32) = nI 8 from rfl, nI_mul, nI_add], nm_s]
  · unfold M_boat
    rw [a2, bd2_s, sA_lit (x := 18) (i := 18) rfl (by decide) (by decide), nm_s, show Int32.toNatClampNeg 18 = 18 from rfl, b2, bd2_s, sA_lit (x := 19) (i := 19) rfl (by decide) (by decide), nm_s, show Int32.toNatClampNeg 19 = 19 from rfl]
  · obtain ⟨e1, e2, e3⟩ := b8 z
    obtain ⟨k1, k2, k3⟩ := a7 e1
    obtain ⟨q0, q1, q2, q3, q4, q5, q6, q7, q8, q9, q10, q11, q12, q13, q14, q15, q16, q17⟩ := hW
    have d8 : (s * 8 + w) / 8 = s := by omega
    have m8 : (s * 8 + w) % 8 = w := by omega
    refine ⟨e2.trans k1, sv ρ 10 (s * 8 + w), ⟨q0, q1, q2, q3, q4, q5, q6, q7, q8, q9, q10, q11, q12, q13, q14, ?_, fun z => absurd z h0, fun _ => ?_⟩, h0, RC_s10 _ (RC_N b4 (RC_N a4 hR)), ?_⟩
    · show s * 8 + w < 384
      omega
    · show okS ρ ((s * 8 + w) / 8)
      rw [d8]; exact k2
    · obtain ⟨⟨h0, h1, h2, h3, h4, h5⟩, ⟨h6, h7⟩, ⟨h8, h9⟩, h10, h11, h12, h13⟩ := hM
      have n : ∀ j, j ≠ 18 → j ≠ 19 → (hset f2 104 19 v) 104 j = f 104 j := fun j a b => by rw [hset_at, upd_ne _ _ b, b5.1 104 (by decide), hset_at, upd_ne _ _ a, a5.1 104 (by decide)]
      have k3' : (hset f2 104 19 v) 103 = f 103 := by rw [hset_ne _ _ _ (by decide), b5.1 103 (by decide), hset_ne _ _ _ (by decide), a5.1 103 (by decide)]
      have k5' : (hset f2 104 19 v) 105 = f 105 := by rw [hset_ne _ _ _ (by decide), b5.1 105 (by decide), hset_ne _ _ _ (by decide), a5.1 105 (by decide)]
      refine ⟨⟨(n _ (by decide) (by decide)).trans h0, (n _ (by decide) (by decide)).trans h1, (n _ (by decide) (by decide)).trans h2, (n _ (by decide) (by decide)).trans h3, (n _ (by decide) (by decide)).trans h4, (n _ (by decide) (by decide)).trans h5⟩, ⟨(n _ (by decide) (by decide)).trans h6, (n _ (by decide) (by decide)).trans h7⟩, ⟨(n _ (by decide) (by decide)).trans h8, (n _ (by decide) (by decide)).trans h9⟩, fun s hs => by rw [k3']; exact h10 s hs, fun j hj => by rw [k5']; exact h11 j hj, fun _ => ⟨?_, ?_⟩, fun z => absurd trivial z⟩
      · rw [hset_at, upd_ne _ _ (by decide), b5.1 104 (by decide), hset_at, upd_at, k3]
        show nI (cM ρ s) = nI (cM ρ ((s * 8 + w) / 8))
        rw [d8]
      · rw [hset_at, upd_at, e3]
        show nI w = nI ((s * 8 + w) % 8)
        rw [m8]
theorem goalJ {tx : List Nat} (hX : okX tx) {P : Int32} {p : Nat} {g f : Hp} (h : JJ tx 0 P p g f) (N : Nat) (hN : 200 < N) {ρ : Rv} (hW : WF ρ) (h0 : rW ρ ≠ 0) (hR : RC ρ g) {bt : Prop} (hM : RH ρ bt f) : ∃ g' f', K_Reader_readGoal N g = some g' ∧ M_goal N f = some f' ∧ CE tx P bt g f g' f' := by
  obtain ⟨s, y, g1, f1, F1, P1, p1, a1, a2, a3, a4, a5, a6, a7⟩ := squareJ hX h N hN hW h0 hR hM
  have a3 : JJ tx F1 P1 p1 (hset g1 10 8 (nI s)) (hset f1 104 20 y) := JJ_w a3 _ _ _ _
  obtain ⟨w, v, g2, f2, F2, P2, p2, b1, b2, b3, b4, b5, b6, b7, b8, b9⟩ := numJ hX a3 N hN (lo := 0) (hi := 8) (by decide) (by decide)
  have b1 : K_Reader_readNumber N 0 8 (hset g1 10 8 (nI s)) = some (nI w, g2) := b1
  have b2 : K_M_takeNumber N 0 8 (hset f1 104 20 y) = some (v, f2) := b2
  refine ⟨hset g2 10 9 (nI w), hset f2 104 21 v, ?_, ?_, frK_set (frK_trans (frK_set (frK_N a4) (by decide) _ _) (frK_N b4)) (by decide) _ _, frR_set (frR_trans (frR_set (frR_M a5) (by decide) _ _ (by decide)) (frR_M b5)) (by decide) _ _ (by decide), F2, P2, p2, JJ_w b3 _ _ _ _, fun z => ?_⟩
  · unfold K_Reader_readGoal
    rw [a1, bd2_s, nm_s, b1, bd2_s, nm_s]
  · unfold M_goal
    rw [a2, bd2_s, sA_lit (x := 20) (i := 20) rfl (by decide) (by decide), nm_s, show Int32.toNatClampNeg 20 = 20 from rfl, b2, bd2_s, sA_lit (x := 21) (i := 21) rfl (by decide) (by decide), nm_s, show Int32.toNatClampNeg 21 = 21 from rfl]
  · obtain ⟨e1, e2, e3⟩ := b8 z
    obtain ⟨k1, k2, k3⟩ := a7 e1
    obtain ⟨q0, q1, q2, q3, q4, q5, q6, q7, q8, q9, q10, q11, q12, q13, q14, q15, q16, q17⟩ := hW
    refine ⟨e2.trans k1, sv (sv ρ 6 (s + 1)) 7 w, ⟨q0, q1, q2, q3, q4, q5, q6, fun _ => ?_, b6.2, q9, q10, q11, q12, q13, q14, q15, q16, q17⟩, h0, ?_, ?_⟩
    · show okS ρ (s + 1 - 1)
      rw [Nat.add_sub_cancel]; exact k2
    · obtain ⟨h0, h1, h2, h3, h4, h5, h6, h7, h8, h9, h10, h11, h12⟩ := hR
      have n : ∀ j, j ≠ 8 → j ≠ 9 → (hset g2 10 9 (nI w)) 10 j = g 10 j := fun j a b => by rw [hset_at, upd_ne _ _ b, b4.1 10 (by decide), hset_at, upd_ne _ _ a, a4.1 10 (by decide)]
      have k1' : (hset g2 10 9 (nI w)) 11 = g 11 := by rw [hset_ne _ _ _ (by decide), b4.1 11 (by decide), hset_ne _ _ _ (by decide), a4.1 11 (by decide)]
      have k2' : (hset g2 10 9 (nI w)) 12 = g 12 := by rw [hset_ne _ _ _ (by decide), b4.1 12 (by decide), hset_ne _ _ _ (by decide), a4.1 12 (by decide)]
      exact ⟨(n _ (by decide) (by decide)).trans h0, (n _ (by decide) (by decide)).trans h1, (n _ (by decide) (by decide)).trans h2, (n _ (by decide) (by decide)).trans h3, (n _ (by decide) (by decide)).trans h4, (n _ (by decide) (by decide)).trans h5, (n _ (by decide) (by decide)).trans h6, by rw [hset_at, upd_ne _ _ (by decide), b4.1 10 (by decide), hset_at, upd_at]; exact (iI_pred s).symm, by rw [hset_at, upd_at]; exact (if_neg (Nat.succ_ne_zero s)).symm, (n _ (by decide) (by decide)).trans h9, (n _ (by decide) (by decide)).trans h10, fun s hs => by rw [k1']; exact h11 s hs, fun j hj => by rw [k2']; exact h12 j hj⟩
    · obtain ⟨⟨h0, h1, h2, h3, h4, h5⟩, ⟨h6, h7⟩, ⟨h8, h9⟩, h10, h11, h12, h13⟩ := hM
      have n : ∀ j, j ≠ 20 → j ≠ 21 → (hset f2 104 21 v) 104 j = f 104 j := fun j a b => by rw [hset_at, upd_ne _ _ b, b5.1 104 (by decide), hset_at, upd_ne _ _ a, a5.1 104 (by decide)]
      have k3' : (hset f2 104 21 v) 103 = f 103 := by rw [hset_ne _ _ _ (by decide), b5.1 103 (by decide), hset_ne _ _ _ (by decide), a5.1 103 (by decide)]
      have k5' : (hset f2 104 21 v) 105 = f 105 := by rw [hset_ne _ _ _ (by decide), b5.1 105 (by decide), hset_ne _ _ _ (by decide), a5.1 105 (by decide)]
      refine ⟨⟨(n _ (by decide) (by decide)).trans h0, (n _ (by decide) (by decide)).trans h1, (n _ (by decide) (by decide)).trans h2, (n _ (by decide) (by decide)).trans h3, (n _ (by decide) (by decide)).trans h4, (n _ (by decide) (by decide)).trans h5⟩, ⟨?_, ?_⟩, ⟨(n _ (by decide) (by decide)).trans h8, (n _ (by decide) (by decide)).trans h9⟩, fun s hs => by rw [k3']; exact h10 s hs, fun j hj => by rw [k5']; exact h11 j hj, fun b => by rw [n 18 (by decide) (by decide), n 19 (by decide) (by decide)]; exact h12 b, fun b => by rw [n 18 (by decide) (by decide), n 19 (by decide) (by decide)]; exact h13 b⟩
      · rw [hset_at, upd_ne _ _ (by decide), b5.1 104 (by decide), hset_at, upd_at, k3]
        exact (if_neg (Nat.succ_ne_zero s)).symm
      · rw [hset_at, upd_at, e3]
        exact (if_neg (Nat.succ_ne_zero s)).symm

/-! mute -/
def muS (ρ : Rv) (z : Nat × Nat) : Nat × Nat := (aft ρ 0 z.1 z.2, 4 * hbt ρ (z.2 % 4) + hbt ρ (4 + z.2 / 4))
def muN (ρ : Rv) (z : Nat × Nat) : Nat → Nat × Nat
  | 0 => z
  | i + 1 => muS ρ (muN ρ z i)
theorem hb_W {ρ : Rv} (hW : WF ρ) (j : Nat) : hbt ρ j ≤ 3 := hW.2.2.2.2.2.2.2.2.2.2.2.2.2.2.1 j
def okMu (ρ : Rv) (z : Nat × Nat) : Prop := okM ρ z.1 ∧ z.2 < 16
theorem muS_ok {ρ : Rv} (hW : WF ρ) {z : Nat × Nat} (h : okMu ρ z) : okMu ρ (muS ρ z) := ⟨aft_ok hW h.1, by
  have a := hb_W hW (z.2 % 4)
  have b := hb_W hW (4 + z.2 / 4)
  show 4 * hbt ρ (z.2 % 4) + hbt ρ (4 + z.2 / 4) < 16
  omega⟩
theorem muN_ok {ρ : Rv} (hW : WF ρ) {z : Nat × Nat} (h : okMu ρ z) : ∀ i, okMu ρ (muN ρ z i) := by
  intro i
  induction i with
  | zero => exact h
  | succ i ih => exact muS_ok hW ih
theorem habitK {ρ : Rv} {h : Hp} (hR : RC ρ h) {s w : Nat} (hs : s < 2) (hw : w < 4) : K_River_habitOf (nI s) (nI w) h = some (nI (hbt ρ (4 * s + w))) := by
  unfold K_River_habitOf
  have k8 : (8 : Int32) ≤ nI (4 * s + w) ↔ 8 ≤ 4 * s + w := nI_le_iff (a := 8) (by omega) (by omega)
  rw [show (4 : Int32) = nI 4 from rfl, nI_mul, nI_add, nm_s, if_neg (nI_not_neg (by omega)), if_neg (fun z => by have := k8.mp z; omega), gA_nI (by omega) (by omega), hR.2.2.2.2.2.2.2.2.2.2.2.2 _ (by omega)]
theorem silentK {ρ : Rv} {h : Hp} (hW : WF ρ) (hR : cR ρ h) {z : Nat × Nat} (hz : okMu ρ z) : K_C_afterSilently (nI (16 * z.1 + z.2)) h = some (nI (16 * (muS ρ z).1 + (muS ρ z).2)) := by
  have l := okM_lt hW hz.1
  have p := hz.2
  unfold K_C_afterSilently
  rw [show (16 : Int32) = nI 16 from rfl, nI_rem (by omega) (by omega) (by omega), nI_div (by omega) (by omega) (by omega), nm_s, show (16 * z.1 + z.2) % 16 = z.2 by omega, show (16 * z.1 + z.2) / 16 = z.1 by omega, show (4 : Int32) = nI 4 from rfl, nI_rem (by omega) (by omega) (by omega), nI_div (by omega) (by omega) (by omega), show (0 : Int32) = nI 0 from rfl, show (1 : Int32) = nI 1 from rfl, habitK hR.1 (by omega) (by omega), bd_s, habitK hR.1 (by omega) (by omega), bd_s, afterK hW hR.2.1 (by omega) hR.2.2 hz.1.1 p, bd_s, nI_mul, nI_mul, nI_add, nI_add]
  refine congrArg (fun q => some (nI q)) ?_
  show aft ρ 0 z.1 z.2 * 16 + 4 * hbt ρ (4 * 0 + z.2 % 4) + hbt ρ (4 * 1 + z.2 / 4) = 16 * aft ρ 0 z.1 z.2 + (4 * hbt ρ (z.2 % 4) + hbt ρ (4 + z.2 / 4))
  rw [show 4 * 0 + z.2 % 4 = z.2 % 4 by omega, show 4 * 1 + z.2 / 4 = 4 + z.2 / 4 by omega]
  omega
theorem muteM {ρ : Rv} {h : Hp} (hW : WF ρ) (N : Nat) (hN : 200 < N) (hR : RM ρ h) (hm : h 100 12 = 0) {z : Nat × Nat} (hz : okMu ρ z) : ∃ h1, K_M_afterMute N (nI (16 * eM ρ z.1 + z.2)) h = some (nI (16 * eM ρ (muS ρ z).1 + (muS ρ z).2), h1) ∧ sameM h h1 ∧ (∀ r, r ≠ 100 → h1 r = h r) := by
  have l := okM_lt hW hz.1
  have p := hz.2
  have hs := okS_in hW hz.1.2
  have ep := eM_parts hW hz.1.1 hs
  have e1 := ep.1
  have ea := (eM_parts hW (aft_ok hW (kn := 0) (p := z.2) hz.1).1 (okS_in hW (aft_ok hW (kn := 0) (p := z.2) hz.1).2)).1
  have b1 := hb_W hW (z.2 % 4)
  have b2 := hb_W hW (4 + z.2 / 4)
  refine ⟨_, ?_, sameM_nx h (aft ρ 0 z.1 z.2 % 8) (cM ρ (aft ρ 0 z.1 z.2 % 384 / 8)), fun r hr => nx_ne _ _ _ hr⟩
  unfold K_M_afterMute
  rw [show (16 : Int32) = nI 16 from rfl, nI_rem (by omega) (by omega) (by omega), nI_div (by omega) (by omega) (by omega), nm_s, show (16 * eM ρ z.1 + z.2) % 16 = z.2 by omega, show (16 * eM ρ z.1 + z.2) / 16 = eM ρ z.1 by omega, show (4 : Int32) = nI 4 from rfl, nI_rem (by omega) (by omega) (by omega), nI_div (by omega) (by omega) (by omega), afterM hW N (by omega) hR (kn := 0) (by omega) hm hz.1.1 hs p, bd2_s, nx_ne _ _ _ (by decide), gA_nI (by omega) (by omega), hR.2.2.2.2.2.2.2.2.2.2.2 _ (by omega), nI_add, gA_nI (by omega) (by omega), hR.2.2.2.2.2.2.2.2.2.2.2 _ (by omega), nI_mul, nI_mul, nI_add, nI_add]
  refine congrArg (fun q => some (nI q, _)) ?_
  show 16 * eM ρ (aft ρ 0 z.1 z.2) + 4 * hbt ρ (z.2 % 4) + hbt ρ (4 + z.2 / 4) = 16 * eM ρ (aft ρ 0 z.1 z.2) + (4 * hbt ρ (z.2 % 4) + hbt ρ (4 + z.2 / 4))
  omega

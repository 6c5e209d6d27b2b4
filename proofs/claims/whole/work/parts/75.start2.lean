/-! the state that the law's loop begins in -/
def kS1 : pm_Ka := kx (fun _ => none) 0 (5, 0)
def kS2 : pm_Ka := kx (K90 kS1) 32 (6, 0)
def rS1 : pm_Ra := rx (fun _ _ => none) 0
def rS2 : pm_Ra := rx (R90 rS1) 32
def gS : pm_G := (K129 kS2 33, R129 rS2 33, 46, 46, 3445)
def iS : pm_V := V129 (fun _ _ => 0) 33
theorem kS1_0 : kS1 0 = some (5, 0) := rfl
theorem kS1_f : ∀ j, 1 ≤ j → kS1 j = none := fun j h => by unfold kS1; rw [kx_n (by omega)]
theorem K90_n {κ : pm_Ka} {j : Nat} (h : 32 ≤ j) : K90 κ j = κ j := by
  unfold K90
  simp (disch := omega) only [kx_n, K14_n, K66_n, K0_n, K5_n, K25_n]
theorem kS2_32 : kS2 32 = some (6, 0) := rfl
theorem kS2_f : ∀ j, 33 ≤ j → kS2 j = none := fun j h => by unfold kS2; rw [kx_n (by omega), K90_n (by omega)]; exact kS1_f j (by omega)
theorem V90_0 : V90 (fun _ _ => 0) = fun _ _ => 0 := by
  unfold V90 V14 V66 V0 V5 V25
  simp only [ir_0]
theorem gS_lay : pm_lay gS := ⟨by decide +kernel, by decide +kernel⟩
theorem gS_f : ∀ j, gS.2.2.1 ≤ j → gS.1 j = none := fun j h => K129_f kS2_f j h
theorem gS_xg : pm_xg gS := fun j h => gS_f j (by show 46 ≤ j; omega)
theorem iS_n {c : Nat} (h : c ≠ 33) : iS c = fun _ => 0 := by
  unfold iS V129 pm_ir pm_iw
  simp only [if_neg h]
  (repeat' split) <;> rfl
theorem iS_33 {j : Nat} (h : j < 8) : iS 33 j = -1 := by
  rcases (show j = 0 ∨ j = 1 ∨ j = 2 ∨ j = 3 ∨ j = 4 ∨ j = 5 ∨ j = 6 ∨ j = 7 by omega) with rfl | rfl | rfl | rfl | rfl | rfl | rfl | rfl <;> rfl
theorem iS_z {c j : Nat} (h : c ≠ 33) : iS c j = 0 := by rw [iS_n h]
theorem gS_RM : RM gS := ⟨by decide +kernel, by decide +kernel, by decide +kernel⟩
theorem nI0 : nI 0 = 0 := rfl
theorem S_CO : CO gS iS (znw 0 0) := by
  have hz := fun (c j : Nat) (h : c ≠ 33) => iS_z (c := c) (j := j) h
  refine ⟨⟨⟨hz 11 0 (by decide), hz 11 1 (by decide), hz 11 2 (by decide), hz 11 3 (by decide), fun i hi => by rw [hz 11 4 (by decide), b_0]; rfl, fun l hl i hi => by rw [hz 12 l (by decide), b_0]; rfl, fun h hh => absurd hh (Nat.not_lt_zero h)⟩,
    ⟨hz 36 0 (by decide), hz 36 1 (by decide), hz 36 3 (by decide), hz 36 4 (by decide), fun l hl i hi => by rw [hz 36 _ (by decide), b_0]; rfl, fun h hh => absurd hh (Nat.not_lt_zero h)⟩,
    ⟨by show 0 ≤ 4; omega, by show 0 ≤ 20; omega, by show 0 ≤ 6; omega, by show 0 < 100000; omega, fun l y h => (by cases h), fun h hh => absurd hh (Nat.not_lt_zero h)⟩,
    ⟨fun a b ha => absurd ha (Nat.not_lt_zero a), fun a ha => absurd ha (Nat.not_lt_zero a)⟩,
    ⟨by show 0 ≤ 9999; omega, fun h hh => absurd hh (Nat.not_lt_zero h)⟩⟩,
    ⟨fun i _ _ => by rw [hz 1 3 (by decide), b_0], fun r hr => Or.inl ⟨by rw [hz 1 3 (by decide), b_0], iS_33 hr⟩⟩,
    ⟨0, by omega, hz 5 1 (by decide), hz 32 10 (by decide), fun i hi => absurd hi (Nat.not_lt_zero i)⟩,
    ⟨0, 0, fun _ => znw 0 0, ⟨by omega, by omega, hz 7 1 (by decide), hz 7 2 (by decide), fun j hj => absurd hj (Nat.not_lt_zero j)⟩, ⟨hz 32 8 (by decide), fun j hj => absurd hj (Nat.not_lt_zero j)⟩, fun j hj => absurd hj (Nat.not_lt_zero j)⟩,
    ⟨0, by omega, hz 9 1 (by decide), hz 32 25 (by decide), fun i hi => absurd hi (Nat.not_lt_zero i)⟩,
    ⟨Or.inl ⟨by decide +kernel, hz 43 0 (by decide)⟩, Or.inl ⟨by decide +kernel, hz 43 1 (by decide)⟩, fun c e h => ?_⟩, ?_, ?_⟩
  · have q : gS.2.1 31 0 = none := by decide +kernel
    rw [q] at h
    cases h
  · rw [hz 0 7 (by decide), hz 32 1 (by decide)]
  · rw [hz 5 6 (by decide), hz 32 11 (by decide)]
theorem S_RL : RL gS iS := ⟨⟨gS_lay, gS_xg, gS_RM⟩, _, S_CO⟩

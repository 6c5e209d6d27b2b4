/-! the constructors (printed by wip/whole/gen74.py) -/
abbrev pm_Ka : Type := Nat → Option (Nat × Nat)
abbrev pm_Ra : Type := Nat → Nat → Option Nat
def kx (κ : pm_Ka) (m : Nat) (x : Nat × Nat) : pm_Ka := fun j => if j = m then some x else κ j
def rx (ρ : pm_Ra) (m : Nat) : pm_Ra := fun j => if j = m then fun _ => none else ρ j
theorem kx_s {κ : pm_Ka} {m : Nat} {x : Nat × Nat} : kx κ m x m = some x := if_pos rfl
theorem kx_n {κ : pm_Ka} {m j : Nat} {x : Nat × Nat} (h : j ≠ m) : kx κ m x j = κ j := if_neg h
theorem kx_f {κ : pm_Ka} {m m1 : Nat} {x : Nat × Nat} (h : ∀ j, m ≤ j → κ j = none) (e : m1 = m + 1) : ∀ j, m1 ≤ j → kx κ m x j = none := fun j hj => by rw [kx_n (by omega)]; exact h j (by omega)
theorem kx_k {κ : pm_Ka} {m k : Nat} {x y : Nat × Nat} (h : κ k = some y) (e : k < m) : kx κ m x k = some y := by rw [kx_n (by omega)]; exact h
theorem ir_0 {m : Nat} : pm_ir (fun _ _ => 0) m (fun _ => 0) = fun _ _ => 0 := by
  funext j
  by_cases h : j = m <;> simp [pm_ir, h]
section C1
variable {X : pm_X} {d mi pc : Nat} {lo : List (Option Value)} {st : List Value} {κ : pm_Ka} {ρ : pm_Ra} {N N1 c c1 s s1 : Nat} {iv : pm_V}
theorem at_newT {cl idx ci z : Nat} (hd : decode (pm_mb mi) pc = .ok (.new idx, 3)) (hm : pm_mc mi = cl) (hf : pm_lct.lookup (cl, idx) = some (ci, z)) (hn : κ N = none) (hb : N < 1000) (h1 : N1 = N + 1) (h2 : c1 = c + 1) (h3 : s1 = s + pm_nf ci) : pm_at X d mi (pc, lo, st, (κ, ρ, N, c, s), iv) = pm_at X d mi (pc + 3, lo, .ref N :: st, (kx κ N (ci, 0), rx ρ N, N1, c1, s1), pm_ir iv N (fun _ => 0)) := by
  subst h1 h2 h3
  exact at_new hd hm hf ⟨hn, hb⟩
theorem at_nwaT {t : ArrayType} {n : Int32} {q k : Nat} (hd : decode (pm_mb mi) pc = .ok (.newarray t, 2)) (hq : pm_aq t = q) (h8 : 8 ≤ q) (h0 : ¬ n < 0) (hk : n.toNatClampNeg = k) (hk2 : k ≤ 1000000) (hn : κ N = none) (hb : N < 1000) (h1 : N1 = N + 1) (h2 : c1 = c + 1) (h3 : s1 = s + k) : pm_at X d mi (pc, lo, .int n :: st, (κ, ρ, N, c, s), iv) = pm_at X d mi (pc + 2, lo, .ref N :: st, (kx κ N (q, k), rx ρ N, N1, c1, s1), pm_ir iv N (fun _ => 0)) := by
  subst h1 h2 h3
  exact at_nwa hd hq h8 h0 hk hk2 ⟨hn, hb⟩
theorem at_anaT {cl idx z : Nat} {n : Int32} {k : Nat} (hd : decode (pm_mb mi) pc = .ok (.anewarray idx, 3)) (hm : pm_mc mi = cl) (hf : pm_lct.lookup (cl, idx) = some (3, z)) (h0 : ¬ n < 0) (hk : n.toNatClampNeg = k) (hk2 : k ≤ 1000000) (hn : κ N = none) (hb : N < 1000) (h1 : N1 = N + 1) (h2 : c1 = c + 1) (h3 : s1 = s + k) : pm_at X d mi (pc, lo, .int n :: st, (κ, ρ, N, c, s), iv) = pm_at X d mi (pc + 3, lo, .ref N :: st, (kx κ N (11, k), rx ρ N, N1, c1, s1), pm_ir iv N (fun _ => 0)) := by
  subst h1 h2 h3
  exact at_ana hd hm hf h0 hk hk2 ⟨hn, hb⟩
theorem at_pfRT {cl idx ci sl z a t : Nat} (hd : decode (pm_mb mi) pc = .ok (.putfield idx, 3)) (hm : pm_mc mi = cl) (hf : pm_lft.lookup (cl, idx) = some (ci, sl, z)) (ho : ci < 7 ∧ sl < pm_nf ci ∧ pm_rf ci sl = true ∧ (pm_mk mi = 2 ∧ cl = ci)) (hk : κ a = some (ci, 0)) : pm_at X d mi (pc, lo, .ref t :: .ref a :: st, (κ, ρ, N, c, s), iv) = pm_at X d mi (pc + 3, lo, st, (κ, pm_rw ρ a sl (some t), N, c, s), iv) :=
  at_pfR hd hm hf ho hk
end C1
section C2
variable {X : pm_X} {d k N c s : Nat} {κ : pm_Ka} {ρ : pm_Ra} {iv : pm_V}
def K14 (κ : pm_Ka) (N : Nat) : pm_Ka := (kx (kx (kx κ (N) (8, 320)) (N + 1) (8, 8)) (N + 2) (8, 8))
def R14 (ρ : pm_Ra) (N : Nat) : pm_Ra := (pm_rw (rx (pm_rw (rx (pm_rw (rx ρ (N)) 1 0 (some (N))) (N + 1)) 1 1 (some (N + 1))) (N + 2)) 1 2 (some (N + 2)))
def V14 (iv : pm_V) (N : Nat) : pm_V := (pm_ir (pm_ir (pm_ir iv (N) (fun _ => 0)) (N + 1) (fun _ => 0)) (N + 2) (fun _ => 0))
theorem K14_n {j : Nat} (h : j < N ∨ N + 3 ≤ j) : K14 κ N j = κ j := by
  unfold K14
  simp (disch := omega) only [kx_n]
theorem K14_f (hf : ∀ j, N ≤ j → κ j = none) : ∀ j, N + 3 ≤ j → K14 κ N j = none := fun j h => by rw [K14_n (Or.inr h)]; exact hf j (by omega)
theorem V14_n {j : Nat} (h : j < N ∨ N + 3 ≤ j) : V14 iv N j = iv j := by
  unfold V14
  simp (disch := omega) only [ir_n, iw_n]
set_option maxHeartbeats 2000000 in
theorem i14 (hd : 1 ≤ d) (hk : κ 1 = some (2, 0)) (hN : 1 < N) (hf : ∀ j, N ≤ j → κ j = none) (hb : N + 3 ≤ 1000) : pm_c X d 14 [.ref 1] (κ, ρ, N, c, s) iv = some (none, (K14 κ N, R14 ρ N, N + 3, c + 3, s + 336), V14 iv N) := by
  obtain ⟨d, rfl, -⟩ := pm_d1 hd
  have f0 := kx_f (x := (8, 320)) (m1 := N + 1) hf (by omega)
  have k0 := kx_k (x := (8, 320)) (m := N) hk (by omega)
  have f1 := kx_f (x := (8, 8)) (m1 := N + 2) f0 (by omega)
  have k1 := kx_k (x := (8, 8)) (m := N + 1) k0 (by omega)
  have f2 := kx_f (x := (8, 8)) (m1 := N + 3) f1 (by omega)
  have k2 := kx_k (x := (8, 8)) (m := N + 2) k1 (by omega)
  rw [e14]
  refine (at_aload_n dc14_0 rfl).trans ?_
  refine (at_objI dc14_1 mc14 lm2_3 (Nat.le_of_ble_eq_true rfl)).trans ?_
  refine (at_aload_n dc14_4 rfl).trans ?_
  refine (at_sipush (v := 320) dc14_5 (by decide)).trans ?_
  refine (at_nwaT (q := 8) (k := 320) (N1 := N + 1) (c1 := c + 1) (s1 := s + 320) dc14_8 rfl (by decide) (by decide) rfl (by decide) (hf _ (by omega)) (by omega) (by omega) (by omega) (by omega)).trans ?_
  refine (at_pfRT dc14_10 mc14 lf2_9 (by decide) k0).trans ?_
  refine (at_aload_n dc14_13 rfl).trans ?_
  refine (at_bipush (v := 8) dc14_14 (by decide)).trans ?_
  refine (at_nwaT (q := 8) (k := 8) (N1 := N + 2) (c1 := c + 2) (s1 := s + 328) dc14_16 rfl (by decide) (by decide) rfl (by decide) (f0 _ (by omega)) (by omega) (by omega) (by omega) (by omega)).trans ?_
  refine (at_pfRT dc14_18 mc14 lf2_15 (by decide) k1).trans ?_
  refine (at_aload_n dc14_21 rfl).trans ?_
  refine (at_bipush (v := 8) dc14_22 (by decide)).trans ?_
  refine (at_nwaT (q := 8) (k := 8) (N1 := N + 3) (c1 := c + 3) (s1 := s + 336) dc14_24 rfl (by decide) (by decide) rfl (by decide) (f1 _ (by omega)) (by omega) (by omega) (by omega) (by omega)).trans ?_
  refine (at_pfRT dc14_26 mc14 lf2_18 (by decide) k2).trans ?_
  exact at_vret dc14_29 mr14
def K66 (κ : pm_Ka) (N : Nat) : pm_Ka := (kx κ (N) (9, 400))
def R66 (ρ : pm_Ra) (N : Nat) : pm_Ra := (pm_rw (rx ρ (N)) 5 0 (some (N)))
def V66 (iv : pm_V) (N : Nat) : pm_V := (pm_ir iv (N) (fun _ => 0))
theorem K66_n {j : Nat} (h : j < N ∨ N + 1 ≤ j) : K66 κ N j = κ j := by
  unfold K66
  simp (disch := omega) only [kx_n]
theorem K66_f (hf : ∀ j, N ≤ j → κ j = none) : ∀ j, N + 1 ≤ j → K66 κ N j = none := fun j h => by rw [K66_n (Or.inr h)]; exact hf j (by omega)
theorem V66_n {j : Nat} (h : j < N ∨ N + 1 ≤ j) : V66 iv N j = iv j := by
  unfold V66
  simp (disch := omega) only [ir_n, iw_n]
set_option maxHeartbeats 2000000 in
theorem i66 (hd : 1 ≤ d) (hk : κ 5 = some (4, 0)) (hN : 5 < N) (hf : ∀ j, N ≤ j → κ j = none) (hb : N + 1 ≤ 1000) : pm_c X d 66 [.ref 5] (κ, ρ, N, c, s) iv = some (none, (K66 κ N, R66 ρ N, N + 1, c + 1, s + 400), V66 iv N) := by
  obtain ⟨d, rfl, -⟩ := pm_d1 hd
  have f0 := kx_f (x := (9, 400)) (m1 := N + 1) hf (by omega)
  have k0 := kx_k (x := (9, 400)) (m := N) hk (by omega)
  rw [e66]
  refine (at_aload_n dc66_0 rfl).trans ?_
  refine (at_objI dc66_1 mc66 lm4_3 (Nat.le_of_ble_eq_true rfl)).trans ?_
  refine (at_aload_n dc66_4 rfl).trans ?_
  refine (at_sipush (v := 400) dc66_5 (by decide)).trans ?_
  refine (at_nwaT (q := 9) (k := 400) (N1 := N + 1) (c1 := c + 1) (s1 := s + 400) dc66_8 rfl (by decide) (by decide) rfl (by decide) (hf _ (by omega)) (by omega) (by omega) (by omega) (by omega)).trans ?_
  refine (at_pfRT dc66_10 mc66 lf4_9 (by decide) k0).trans ?_
  exact at_vret dc66_13 mr66
def K0 (κ : pm_Ka) (N : Nat) : pm_Ka := (kx κ (N) (8, 480))
def R0 (ρ : pm_Ra) (N : Nat) : pm_Ra := (pm_rw (rx ρ (N)) 7 0 (some (N)))
def V0 (iv : pm_V) (N : Nat) : pm_V := (pm_ir iv (N) (fun _ => 0))
theorem K0_n {j : Nat} (h : j < N ∨ N + 1 ≤ j) : K0 κ N j = κ j := by
  unfold K0
  simp (disch := omega) only [kx_n]
theorem K0_f (hf : ∀ j, N ≤ j → κ j = none) : ∀ j, N + 1 ≤ j → K0 κ N j = none := fun j h => by rw [K0_n (Or.inr h)]; exact hf j (by omega)
theorem V0_n {j : Nat} (h : j < N ∨ N + 1 ≤ j) : V0 iv N j = iv j := by
  unfold V0
  simp (disch := omega) only [ir_n, iw_n]
set_option maxHeartbeats 2000000 in
theorem i0 (hd : 1 ≤ d) (hk : κ 7 = some (0, 0)) (hN : 7 < N) (hf : ∀ j, N ≤ j → κ j = none) (hb : N + 1 ≤ 1000) : pm_c X d 0 [.ref 7] (κ, ρ, N, c, s) iv = some (none, (K0 κ N, R0 ρ N, N + 1, c + 1, s + 480), V0 iv N) := by
  obtain ⟨d, rfl, -⟩ := pm_d1 hd
  have f0 := kx_f (x := (8, 480)) (m1 := N + 1) hf (by omega)
  have k0 := kx_k (x := (8, 480)) (m := N) hk (by omega)
  rw [e0]
  refine (at_aload_n dc0_0 rfl).trans ?_
  refine (at_objI dc0_1 mc0 lm0_3 (Nat.le_of_ble_eq_true rfl)).trans ?_
  refine (at_aload_n dc0_4 rfl).trans ?_
  refine (at_sipush (v := 480) dc0_5 (by decide)).trans ?_
  refine (at_nwaT (q := 8) (k := 480) (N1 := N + 1) (c1 := c + 1) (s1 := s + 480) dc0_8 rfl (by decide) (by decide) rfl (by decide) (hf _ (by omega)) (by omega) (by omega) (by omega) (by omega)).trans ?_
  refine (at_pfRT dc0_10 mc0 lf0_11 (by decide) k0).trans ?_
  exact at_vret dc0_13 mr0
def K5 (κ : pm_Ka) (N : Nat) : pm_Ka := (kx κ (N) (8, 16))
def R5 (ρ : pm_Ra) (N : Nat) : pm_Ra := (pm_rw (rx ρ (N)) 9 0 (some (N)))
def V5 (iv : pm_V) (N : Nat) : pm_V := (pm_ir iv (N) (fun _ => 0))
theorem K5_n {j : Nat} (h : j < N ∨ N + 1 ≤ j) : K5 κ N j = κ j := by
  unfold K5
  simp (disch := omega) only [kx_n]
theorem K5_f (hf : ∀ j, N ≤ j → κ j = none) : ∀ j, N + 1 ≤ j → K5 κ N j = none := fun j h => by rw [K5_n (Or.inr h)]; exact hf j (by omega)
theorem V5_n {j : Nat} (h : j < N ∨ N + 1 ≤ j) : V5 iv N j = iv j := by
  unfold V5
  simp (disch := omega) only [ir_n, iw_n]
set_option maxHeartbeats 2000000 in
theorem i5 (hd : 1 ≤ d) (hk : κ 9 = some (1, 0)) (hN : 9 < N) (hf : ∀ j, N ≤ j → κ j = none) (hb : N + 1 ≤ 1000) : pm_c X d 5 [.ref 9] (κ, ρ, N, c, s) iv = some (none, (K5 κ N, R5 ρ N, N + 1, c + 1, s + 16), V5 iv N) := by
  obtain ⟨d, rfl, -⟩ := pm_d1 hd
  have f0 := kx_f (x := (8, 16)) (m1 := N + 1) hf (by omega)
  have k0 := kx_k (x := (8, 16)) (m := N) hk (by omega)
  rw [e5]
  refine (at_aload_n dc5_0 rfl).trans ?_
  refine (at_objI dc5_1 mc5 lm1_3 (Nat.le_of_ble_eq_true rfl)).trans ?_
  refine (at_aload_n dc5_4 rfl).trans ?_
  refine (at_bipush (v := 16) dc5_5 (by decide)).trans ?_
  refine (at_nwaT (q := 8) (k := 16) (N1 := N + 1) (c1 := c + 1) (s1 := s + 16) dc5_7 rfl (by decide) (by decide) rfl (by decide) (hf _ (by omega)) (by omega) (by omega) (by omega) (by omega)).trans ?_
  refine (at_pfRT dc5_9 mc5 lf1_9 (by decide) k0).trans ?_
  exact at_vret dc5_12 mr5
def K25 (κ : pm_Ka) (N : Nat) : pm_Ka := (kx (kx (kx (kx (kx (kx (kx (kx (kx κ (N) (8, 4)) (N + 1) (8, 6)) (N + 2) (8, 6)) (N + 3) (8, 6)) (N + 4) (8, 6)) (N + 5) (8, 6)) (N + 6) (8, 6)) (N + 7) (8, 6)) (N + 8) (8, 4))
def R25 (ρ : pm_Ra) (k : Nat) (N : Nat) : pm_Ra := (pm_rw (rx (pm_rw (rx (pm_rw (rx (pm_rw (rx (pm_rw (rx (pm_rw (rx (pm_rw (rx (pm_rw (rx (pm_rw (rx ρ (N)) k 5 (some (N))) (N + 1)) k 6 (some (N + 1))) (N + 2)) k 7 (some (N + 2))) (N + 3)) k 8 (some (N + 3))) (N + 4)) k 9 (some (N + 4))) (N + 5)) k 10 (some (N + 5))) (N + 6)) k 11 (some (N + 6))) (N + 7)) k 12 (some (N + 7))) (N + 8)) k 13 (some (N + 8)))
def V25 (iv : pm_V) (N : Nat) : pm_V := (pm_ir (pm_ir (pm_ir (pm_ir (pm_ir (pm_ir (pm_ir (pm_ir (pm_ir iv (N) (fun _ => 0)) (N + 1) (fun _ => 0)) (N + 2) (fun _ => 0)) (N + 3) (fun _ => 0)) (N + 4) (fun _ => 0)) (N + 5) (fun _ => 0)) (N + 6) (fun _ => 0)) (N + 7) (fun _ => 0)) (N + 8) (fun _ => 0))
theorem K25_n {j : Nat} (h : j < N ∨ N + 9 ≤ j) : K25 κ N j = κ j := by
  unfold K25
  simp (disch := omega) only [kx_n]
theorem K25_f (hf : ∀ j, N ≤ j → κ j = none) : ∀ j, N + 9 ≤ j → K25 κ N j = none := fun j h => by rw [K25_n (Or.inr h)]; exact hf j (by omega)
theorem V25_n {j : Nat} (h : j < N ∨ N + 9 ≤ j) : V25 iv N j = iv j := by
  unfold V25
  simp (disch := omega) only [ir_n, iw_n]
set_option maxHeartbeats 2000000 in
theorem i25 (hd : 1 ≤ d) (hk : κ k = some (3, 0)) (hN : k < N) (hf : ∀ j, N ≤ j → κ j = none) (hb : N + 9 ≤ 1000) : pm_c X d 25 [.ref k] (κ, ρ, N, c, s) iv = some (none, (K25 κ N, R25 ρ k N, N + 9, c + 9, s + 50), V25 iv N) := by
  obtain ⟨d, rfl, -⟩ := pm_d1 hd
  have f0 := kx_f (x := (8, 4)) (m1 := N + 1) hf (by omega)
  have k0 := kx_k (x := (8, 4)) (m := N) hk (by omega)
  have f1 := kx_f (x := (8, 6)) (m1 := N + 2) f0 (by omega)
  have k1 := kx_k (x := (8, 6)) (m := N + 1) k0 (by omega)
  have f2 := kx_f (x := (8, 6)) (m1 := N + 3) f1 (by omega)
  have k2 := kx_k (x := (8, 6)) (m := N + 2) k1 (by omega)
  have f3 := kx_f (x := (8, 6)) (m1 := N + 4) f2 (by omega)
  have k3 := kx_k (x := (8, 6)) (m := N + 3) k2 (by omega)
  have f4 := kx_f (x := (8, 6)) (m1 := N + 5) f3 (by omega)
  have k4 := kx_k (x := (8, 6)) (m := N + 4) k3 (by omega)
  have f5 := kx_f (x := (8, 6)) (m1 := N + 6) f4 (by omega)
  have k5 := kx_k (x := (8, 6)) (m := N + 5) k4 (by omega)
  have f6 := kx_f (x := (8, 6)) (m1 := N + 7) f5 (by omega)
  have k6 := kx_k (x := (8, 6)) (m := N + 6) k5 (by omega)
  have f7 := kx_f (x := (8, 6)) (m1 := N + 8) f6 (by omega)
  have k7 := kx_k (x := (8, 6)) (m := N + 7) k6 (by omega)
  have f8 := kx_f (x := (8, 4)) (m1 := N + 9) f7 (by omega)
  have k8 := kx_k (x := (8, 4)) (m := N + 8) k7 (by omega)
  rw [e25]
  refine (at_aload_n dc25_0 rfl).trans ?_
  refine (at_objI dc25_1 mc25 lm3_3 (Nat.le_of_ble_eq_true rfl)).trans ?_
  refine (at_aload_n dc25_4 rfl).trans ?_
  refine (at_iconst (v := 4) dc25_5 rfl).trans ?_
  refine (at_nwaT (q := 8) (k := 4) (N1 := N + 1) (c1 := c + 1) (s1 := s + 4) dc25_6 rfl (by decide) (by decide) rfl (by decide) (hf _ (by omega)) (by omega) (by omega) (by omega) (by omega)).trans ?_
  refine (at_pfRT dc25_8 mc25 lf3_9 (by decide) k0).trans ?_
  refine (at_aload_n dc25_11 rfl).trans ?_
  refine (at_bipush (v := 6) dc25_12 (by decide)).trans ?_
  refine (at_nwaT (q := 8) (k := 6) (N1 := N + 2) (c1 := c + 2) (s1 := s + 10) dc25_14 rfl (by decide) (by decide) rfl (by decide) (f0 _ (by omega)) (by omega) (by omega) (by omega) (by omega)).trans ?_
  refine (at_pfRT dc25_16 mc25 lf3_15 (by decide) k1).trans ?_
  refine (at_aload_n dc25_19 rfl).trans ?_
  refine (at_bipush (v := 6) dc25_20 (by decide)).trans ?_
  refine (at_nwaT (q := 8) (k := 6) (N1 := N + 3) (c1 := c + 3) (s1 := s + 16) dc25_22 rfl (by decide) (by decide) rfl (by decide) (f1 _ (by omega)) (by omega) (by omega) (by omega) (by omega)).trans ?_
  refine (at_pfRT dc25_24 mc25 lf3_18 (by decide) k2).trans ?_
  refine (at_aload_n dc25_27 rfl).trans ?_
  refine (at_bipush (v := 6) dc25_28 (by decide)).trans ?_
  refine (at_nwaT (q := 8) (k := 6) (N1 := N + 4) (c1 := c + 4) (s1 := s + 22) dc25_30 rfl (by decide) (by decide) rfl (by decide) (f2 _ (by omega)) (by omega) (by omega) (by omega) (by omega)).trans ?_
  refine (at_pfRT dc25_32 mc25 lf3_21 (by decide) k3).trans ?_
  refine (at_aload_n dc25_35 rfl).trans ?_
  refine (at_bipush (v := 6) dc25_36 (by decide)).trans ?_
  refine (at_nwaT (q := 8) (k := 6) (N1 := N + 5) (c1 := c + 5) (s1 := s + 28) dc25_38 rfl (by decide) (by decide) rfl (by decide) (f3 _ (by omega)) (by omega) (by omega) (by omega) (by omega)).trans ?_
  refine (at_pfRT dc25_40 mc25 lf3_24 (by decide) k4).trans ?_
  refine (at_aload_n dc25_43 rfl).trans ?_
  refine (at_bipush (v := 6) dc25_44 (by decide)).trans ?_
  refine (at_nwaT (q := 8) (k := 6) (N1 := N + 6) (c1 := c + 6) (s1 := s + 34) dc25_46 rfl (by decide) (by decide) rfl (by decide) (f4 _ (by omega)) (by omega) (by omega) (by omega) (by omega)).trans ?_
  refine (at_pfRT dc25_48 mc25 lf3_27 (by decide) k5).trans ?_
  refine (at_aload_n dc25_51 rfl).trans ?_
  refine (at_bipush (v := 6) dc25_52 (by decide)).trans ?_
  refine (at_nwaT (q := 8) (k := 6) (N1 := N + 7) (c1 := c + 7) (s1 := s + 40) dc25_54 rfl (by decide) (by decide) rfl (by decide) (f5 _ (by omega)) (by omega) (by omega) (by omega) (by omega)).trans ?_
  refine (at_pfRT dc25_56 mc25 lf3_30 (by decide) k6).trans ?_
  refine (at_aload_n dc25_59 rfl).trans ?_
  refine (at_bipush (v := 6) dc25_60 (by decide)).trans ?_
  refine (at_nwaT (q := 8) (k := 6) (N1 := N + 8) (c1 := c + 8) (s1 := s + 46) dc25_62 rfl (by decide) (by decide) rfl (by decide) (f6 _ (by omega)) (by omega) (by omega) (by omega) (by omega)).trans ?_
  refine (at_pfRT dc25_64 mc25 lf3_33 (by decide) k7).trans ?_
  refine (at_aload_n dc25_67 rfl).trans ?_
  refine (at_iconst (v := 4) dc25_68 rfl).trans ?_
  refine (at_nwaT (q := 8) (k := 4) (N1 := N + 9) (c1 := c + 9) (s1 := s + 50) dc25_69 rfl (by decide) (by decide) rfl (by decide) (f7 _ (by omega)) (by omega) (by omega) (by omega) (by omega)).trans ?_
  refine (at_pfRT dc25_71 mc25 lf3_36 (by decide) k8).trans ?_
  exact at_vret dc25_74 mr25
def K129 (κ : pm_Ka) (N : Nat) : pm_Ka := (kx (kx (kx (kx (kx (kx (kx (kx (kx (kx (kx (kx (kx κ (N) (8, 8)) (N + 1) (8, 8)) (N + 2) (8, 320)) (N + 3) (8, 45)) (N + 4) (8, 45)) (N + 5) (8, 1080)) (N + 6) (8, 400)) (N + 7) (8, 6)) (N + 8) (8, 6)) (N + 9) (8, 6)) (N + 10) (10, 2)) (N + 11) (8, 90)) (N + 12) (8, 16))
def R129 (ρ : pm_Ra) (N : Nat) : pm_Ra := (pm_rw (rx (pm_rw (rx (pm_rw (rx (pm_rw (rx (pm_rw (rx (pm_rw (rx (pm_rw (rx (pm_rw (rx (pm_rw (rx (pm_rw (rx (pm_rw (rx (pm_rw (rx (pm_rw (rx ρ (N)) 32 2 (some (N))) (N + 1)) 32 3 (some (N + 1))) (N + 2)) 32 4 (some (N + 2))) (N + 3)) 32 5 (some (N + 3))) (N + 4)) 32 6 (some (N + 4))) (N + 5)) 32 7 (some (N + 5))) (N + 6)) 32 9 (some (N + 6))) (N + 7)) 32 19 (some (N + 7))) (N + 8)) 32 20 (some (N + 8))) (N + 9)) 32 21 (some (N + 9))) (N + 10)) 32 22 (some (N + 10))) (N + 11)) 32 23 (some (N + 11))) (N + 12)) 32 24 (some (N + 12)))
def V129 (iv : pm_V) (N : Nat) : pm_V := (pm_ir (pm_ir (pm_ir (pm_ir (pm_ir (pm_ir (pm_ir (pm_ir (pm_ir (pm_ir (pm_ir (pm_ir (pm_iw (pm_iw (pm_iw (pm_iw (pm_iw (pm_iw (pm_iw (pm_iw (pm_ir iv (N) (fun _ => 0)) (N) 0 (-1)) (N) 1 (-1)) (N) 2 (-1)) (N) 3 (-1)) (N) 4 (-1)) (N) 5 (-1)) (N) 6 (-1)) (N) 7 (-1)) (N + 1) (fun _ => 0)) (N + 2) (fun _ => 0)) (N + 3) (fun _ => 0)) (N + 4) (fun _ => 0)) (N + 5) (fun _ => 0)) (N + 6) (fun _ => 0)) (N + 7) (fun _ => 0)) (N + 8) (fun _ => 0)) (N + 9) (fun _ => 0)) (N + 10) (fun _ => 0)) (N + 11) (fun _ => 0)) (N + 12) (fun _ => 0))
theorem K129_n {j : Nat} (h : j < N ∨ N + 13 ≤ j) : K129 κ N j = κ j := by
  unfold K129
  simp (disch := omega) only [kx_n]
theorem K129_f (hf : ∀ j, N ≤ j → κ j = none) : ∀ j, N + 13 ≤ j → K129 κ N j = none := fun j h => by rw [K129_n (Or.inr h)]; exact hf j (by omega)
theorem V129_n {j : Nat} (h : j < N ∨ N + 13 ≤ j) : V129 iv N j = iv j := by
  unfold V129
  simp (disch := omega) only [ir_n, iw_n]
set_option maxHeartbeats 2000000 in
theorem i129 (hd : 1 ≤ d) (hk : κ 32 = some (6, 0)) (hN : 32 < N) (hf : ∀ j, N ≤ j → κ j = none) (hb : N + 13 ≤ 1000) : pm_c X d 129 [.ref 32] (κ, ρ, N, c, s) iv = some (none, (K129 κ N, R129 ρ N, N + 13, c + 13, s + 2032), V129 iv N) := by
  obtain ⟨d, rfl, -⟩ := pm_d1 hd
  have f0 := kx_f (x := (8, 8)) (m1 := N + 1) hf (by omega)
  have k0 := kx_k (x := (8, 8)) (m := N) hk (by omega)
  have f1 := kx_f (x := (8, 8)) (m1 := N + 2) f0 (by omega)
  have k1 := kx_k (x := (8, 8)) (m := N + 1) k0 (by omega)
  have f2 := kx_f (x := (8, 320)) (m1 := N + 3) f1 (by omega)
  have k2 := kx_k (x := (8, 320)) (m := N + 2) k1 (by omega)
  have f3 := kx_f (x := (8, 45)) (m1 := N + 4) f2 (by omega)
  have k3 := kx_k (x := (8, 45)) (m := N + 3) k2 (by omega)
  have f4 := kx_f (x := (8, 45)) (m1 := N + 5) f3 (by omega)
  have k4 := kx_k (x := (8, 45)) (m := N + 4) k3 (by omega)
  have f5 := kx_f (x := (8, 1080)) (m1 := N + 6) f4 (by omega)
  have k5 := kx_k (x := (8, 1080)) (m := N + 5) k4 (by omega)
  have f6 := kx_f (x := (8, 400)) (m1 := N + 7) f5 (by omega)
  have k6 := kx_k (x := (8, 400)) (m := N + 6) k5 (by omega)
  have f7 := kx_f (x := (8, 6)) (m1 := N + 8) f6 (by omega)
  have k7 := kx_k (x := (8, 6)) (m := N + 7) k6 (by omega)
  have f8 := kx_f (x := (8, 6)) (m1 := N + 9) f7 (by omega)
  have k8 := kx_k (x := (8, 6)) (m := N + 8) k7 (by omega)
  have f9 := kx_f (x := (8, 6)) (m1 := N + 10) f8 (by omega)
  have k9 := kx_k (x := (8, 6)) (m := N + 9) k8 (by omega)
  have f10 := kx_f (x := (10, 2)) (m1 := N + 11) f9 (by omega)
  have k10 := kx_k (x := (10, 2)) (m := N + 10) k9 (by omega)
  have f11 := kx_f (x := (8, 90)) (m1 := N + 12) f10 (by omega)
  have k11 := kx_k (x := (8, 90)) (m := N + 11) k10 (by omega)
  have f12 := kx_f (x := (8, 16)) (m1 := N + 13) f11 (by omega)
  have k12 := kx_k (x := (8, 16)) (m := N + 12) k11 (by omega)
  rw [e129]
  refine (at_aload_n dc129_0 rfl).trans ?_
  refine (at_objI dc129_1 mc129 lm6_1 (Nat.le_of_ble_eq_true rfl)).trans ?_
  refine (at_aload_n dc129_4 rfl).trans ?_
  refine (at_bipush (v := 8) dc129_5 (by decide)).trans ?_
  refine (at_nwaT (q := 8) (k := 8) (N1 := N + 1) (c1 := c + 1) (s1 := s + 8) dc129_7 rfl (by decide) (by decide) rfl (by decide) (hf _ (by omega)) (by omega) (by omega) (by omega) (by omega)).trans ?_
  refine (at_dup dc129_9 rfl).trans ?_
  refine (at_iconst (v := 0) dc129_10 rfl).trans ?_
  refine (at_iconst (v := (-1)) dc129_11 rfl).trans ?_
  refine (at_iast dc129_12 (kx_s) (vp_in_nI (n := 0) (by decide) (by decide))).trans ?_
  refine (at_dup dc129_13 rfl).trans ?_
  refine (at_iconst (v := 1) dc129_14 rfl).trans ?_
  refine (at_iconst (v := (-1)) dc129_15 rfl).trans ?_
  refine (at_iast dc129_16 (kx_s) (vp_in_nI (n := 1) (by decide) (by decide))).trans ?_
  refine (at_dup dc129_17 rfl).trans ?_
  refine (at_iconst (v := 2) dc129_18 rfl).trans ?_
  refine (at_iconst (v := (-1)) dc129_19 rfl).trans ?_
  refine (at_iast dc129_20 (kx_s) (vp_in_nI (n := 2) (by decide) (by decide))).trans ?_
  refine (at_dup dc129_21 rfl).trans ?_
  refine (at_iconst (v := 3) dc129_22 rfl).trans ?_
  refine (at_iconst (v := (-1)) dc129_23 rfl).trans ?_
  refine (at_iast dc129_24 (kx_s) (vp_in_nI (n := 3) (by decide) (by decide))).trans ?_
  refine (at_dup dc129_25 rfl).trans ?_
  refine (at_iconst (v := 4) dc129_26 rfl).trans ?_
  refine (at_iconst (v := (-1)) dc129_27 rfl).trans ?_
  refine (at_iast dc129_28 (kx_s) (vp_in_nI (n := 4) (by decide) (by decide))).trans ?_
  refine (at_dup dc129_29 rfl).trans ?_
  refine (at_iconst (v := 5) dc129_30 rfl).trans ?_
  refine (at_iconst (v := (-1)) dc129_31 rfl).trans ?_
  refine (at_iast dc129_32 (kx_s) (vp_in_nI (n := 5) (by decide) (by decide))).trans ?_
  refine (at_dup dc129_33 rfl).trans ?_
  refine (at_bipush (v := 6) dc129_34 (by decide)).trans ?_
  refine (at_iconst (v := (-1)) dc129_36 rfl).trans ?_
  refine (at_iast dc129_37 (kx_s) (vp_in_nI (n := 6) (by decide) (by decide))).trans ?_
  refine (at_dup dc129_38 rfl).trans ?_
  refine (at_bipush (v := 7) dc129_39 (by decide)).trans ?_
  refine (at_iconst (v := (-1)) dc129_41 rfl).trans ?_
  refine (at_iast dc129_42 (kx_s) (vp_in_nI (n := 7) (by decide) (by decide))).trans ?_
  refine (at_pfRT dc129_43 mc129 lf6_7 (by decide) k0).trans ?_
  refine (at_aload_n dc129_46 rfl).trans ?_
  refine (at_bipush (v := 8) dc129_47 (by decide)).trans ?_
  refine (at_nwaT (q := 8) (k := 8) (N1 := N + 2) (c1 := c + 2) (s1 := s + 16) dc129_49 rfl (by decide) (by decide) rfl (by decide) (f0 _ (by omega)) (by omega) (by omega) (by omega) (by omega)).trans ?_
  refine (at_pfRT dc129_51 mc129 lf6_13 (by decide) k1).trans ?_
  refine (at_aload_n dc129_54 rfl).trans ?_
  refine (at_sipush (v := 320) dc129_55 (by decide)).trans ?_
  refine (at_nwaT (q := 8) (k := 320) (N1 := N + 3) (c1 := c + 3) (s1 := s + 336) dc129_58 rfl (by decide) (by decide) rfl (by decide) (f1 _ (by omega)) (by omega) (by omega) (by omega) (by omega)).trans ?_
  refine (at_pfRT dc129_60 mc129 lf6_16 (by decide) k2).trans ?_
  refine (at_aload_n dc129_63 rfl).trans ?_
  refine (at_bipush (v := 45) dc129_64 (by decide)).trans ?_
  refine (at_nwaT (q := 8) (k := 45) (N1 := N + 4) (c1 := c + 4) (s1 := s + 381) dc129_66 rfl (by decide) (by decide) rfl (by decide) (f2 _ (by omega)) (by omega) (by omega) (by omega) (by omega)).trans ?_
  refine (at_pfRT dc129_68 mc129 lf6_19 (by decide) k3).trans ?_
  refine (at_aload_n dc129_71 rfl).trans ?_
  refine (at_bipush (v := 45) dc129_72 (by decide)).trans ?_
  refine (at_nwaT (q := 8) (k := 45) (N1 := N + 5) (c1 := c + 5) (s1 := s + 426) dc129_74 rfl (by decide) (by decide) rfl (by decide) (f3 _ (by omega)) (by omega) (by omega) (by omega) (by omega)).trans ?_
  refine (at_pfRT dc129_76 mc129 lf6_22 (by decide) k4).trans ?_
  refine (at_aload_n dc129_79 rfl).trans ?_
  refine (at_sipush (v := 1080) dc129_80 (by decide)).trans ?_
  refine (at_nwaT (q := 8) (k := 1080) (N1 := N + 6) (c1 := c + 6) (s1 := s + 1506) dc129_83 rfl (by decide) (by decide) rfl (by decide) (f4 _ (by omega)) (by omega) (by omega) (by omega) (by omega)).trans ?_
  refine (at_pfRT dc129_85 mc129 lf6_25 (by decide) k5).trans ?_
  refine (at_aload_n dc129_88 rfl).trans ?_
  refine (at_sipush (v := 400) dc129_89 (by decide)).trans ?_
  refine (at_nwaT (q := 8) (k := 400) (N1 := N + 7) (c1 := c + 7) (s1 := s + 1906) dc129_92 rfl (by decide) (by decide) rfl (by decide) (f5 _ (by omega)) (by omega) (by omega) (by omega) (by omega)).trans ?_
  refine (at_pfRT dc129_94 mc129 lf6_28 (by decide) k6).trans ?_
  refine (at_aload_n dc129_97 rfl).trans ?_
  refine (at_bipush (v := 6) dc129_98 (by decide)).trans ?_
  refine (at_nwaT (q := 8) (k := 6) (N1 := N + 8) (c1 := c + 8) (s1 := s + 1912) dc129_100 rfl (by decide) (by decide) rfl (by decide) (f6 _ (by omega)) (by omega) (by omega) (by omega) (by omega)).trans ?_
  refine (at_pfRT dc129_102 mc129 lf6_31 (by decide) k7).trans ?_
  refine (at_aload_n dc129_105 rfl).trans ?_
  refine (at_bipush (v := 6) dc129_106 (by decide)).trans ?_
  refine (at_nwaT (q := 8) (k := 6) (N1 := N + 9) (c1 := c + 9) (s1 := s + 1918) dc129_108 rfl (by decide) (by decide) rfl (by decide) (f7 _ (by omega)) (by omega) (by omega) (by omega) (by omega)).trans ?_
  refine (at_pfRT dc129_110 mc129 lf6_34 (by decide) k8).trans ?_
  refine (at_aload_n dc129_113 rfl).trans ?_
  refine (at_bipush (v := 6) dc129_114 (by decide)).trans ?_
  refine (at_nwaT (q := 8) (k := 6) (N1 := N + 10) (c1 := c + 10) (s1 := s + 1924) dc129_116 rfl (by decide) (by decide) rfl (by decide) (f8 _ (by omega)) (by omega) (by omega) (by omega) (by omega)).trans ?_
  refine (at_pfRT dc129_118 mc129 lf6_37 (by decide) k9).trans ?_
  refine (at_aload_n dc129_121 rfl).trans ?_
  refine (at_iconst (v := 2) dc129_122 rfl).trans ?_
  refine (at_nwaT (q := 10) (k := 2) (N1 := N + 11) (c1 := c + 11) (s1 := s + 1926) dc129_123 rfl (by decide) (by decide) rfl (by decide) (f9 _ (by omega)) (by omega) (by omega) (by omega) (by omega)).trans ?_
  refine (at_pfRT dc129_125 mc129 lf6_40 (by decide) k10).trans ?_
  refine (at_aload_n dc129_128 rfl).trans ?_
  refine (at_bipush (v := 90) dc129_129 (by decide)).trans ?_
  refine (at_nwaT (q := 8) (k := 90) (N1 := N + 12) (c1 := c + 12) (s1 := s + 2016) dc129_131 rfl (by decide) (by decide) rfl (by decide) (f10 _ (by omega)) (by omega) (by omega) (by omega) (by omega)).trans ?_
  refine (at_pfRT dc129_133 mc129 lf6_44 (by decide) k11).trans ?_
  refine (at_aload_n dc129_136 rfl).trans ?_
  refine (at_bipush (v := 16) dc129_137 (by decide)).trans ?_
  refine (at_nwaT (q := 8) (k := 16) (N1 := N + 13) (c1 := c + 13) (s1 := s + 2032) dc129_139 rfl (by decide) (by decide) rfl (by decide) (f11 _ (by omega)) (by omega) (by omega) (by omega) (by omega)).trans ?_
  refine (at_pfRT dc129_141 mc129 lf6_47 (by decide) k12).trans ?_
  exact at_vret dc129_144 mr129
end C2
section C3
variable {X : pm_X} {d c s : Nat} {κ : pm_Ka} {ρ : pm_Ra} {iv : pm_V}
def K90 (κ : pm_Ka) : pm_Ka := (kx (K25 (kx (K25 (kx (K5 (kx (K0 (kx (K66 (kx (K14 (kx κ 1 (2, 0)) 2) 5 (4, 0)) 6) 7 (0, 0)) 8) 9 (1, 0)) 10) 11 (3, 0)) 12) 21 (3, 0)) 22) 31 (11, 2))
def R90 (ρ : pm_Ra) : pm_Ra := (pm_rw (rx (pm_rw (R25 (rx (pm_rw (R25 (rx (pm_rw (R5 (rx (pm_rw (R0 (rx (pm_rw (R66 (rx (pm_rw (R14 (rx ρ 1) 2) 0 0 (some 1)) 5) 6) 0 1 (some 5)) 7) 8) 0 2 (some 7)) 9) 10) 0 3 (some 9)) 11) 11 12) 0 4 (some 11)) 21) 21 22) 0 5 (some 21)) 31) 0 6 (some 31))
def V90 (iv : pm_V) : pm_V := (pm_ir (V25 (pm_ir (V25 (pm_ir (V5 (pm_ir (V0 (pm_ir (V66 (pm_ir (V14 (pm_ir iv 1 (fun _ => 0)) 2) 5 (fun _ => 0)) 6) 7 (fun _ => 0)) 8) 9 (fun _ => 0)) 10) 11 (fun _ => 0)) 12) 21 (fun _ => 0)) 22) 31 (fun _ => 0))
set_option maxHeartbeats 2000000 in
theorem i90 (hd : 2 ≤ d) (hk : κ 0 = some (5, 0)) (hf : ∀ j, 1 ≤ j → κ j = none) : pm_c X d 90 [.ref 0] (κ, ρ, 1, c, s) iv = some (none, (K90 κ, R90 ρ, 32, c + 31, s + 1379), V90 iv) := by
  obtain ⟨d, rfl, hd1⟩ := pm_d1 hd
  rw [e90]
  refine (at_aload_n dc90_0 rfl).trans ?_
  refine (at_objI dc90_1 mc90 lm5_1 (Nat.le_of_ble_eq_true rfl)).trans ?_
  refine (at_aload_n dc90_4 rfl).trans ?_
  refine (at_newT (N1 := 2) (c1 := c + 1) (s1 := s + 4) dc90_5 mc90 lc5_7 (hf _ (by omega)) (by omega) rfl (by omega) (by show _ = _ + 4; omega)).trans ?_
  have f0 := kx_f (x := (2, 0)) (m1 := 2) hf rfl
  have k0 := kx_k (x := (2, 0)) (m := 1) hk (by omega)
  refine (at_dup dc90_8 rfl).trans ?_
  refine (at_ispN (as := []) dc90_9 mc90 lm5_9 rfl rfl (Nat.le_of_ble_eq_true rfl)).trans ?_
  rw [i14 hd1 kx_s (by omega) f0 (by omega), pm_then_v]
  have f1 := K14_f (N := 2) f0
  have k1 := (K14_n (N := 2) (j := 0) (Or.inl (by omega))).trans k0
  refine (at_pfRT dc90_12 mc90 lf5_10 (by decide) k1).trans ?_
  refine (at_aload_n dc90_15 rfl).trans ?_
  refine (at_newT (N1 := 6) (c1 := c + 5) (s1 := s + 348) dc90_16 mc90 lc5_16 (f1 _ (by omega)) (by omega) rfl (by omega) (by show _ = _ + 8; omega)).trans ?_
  have f2 := kx_f (x := (4, 0)) (m1 := 6) f1 rfl
  have k2 := kx_k (x := (4, 0)) (m := 5) k1 (by omega)
  refine (at_dup dc90_19 rfl).trans ?_
  refine (at_ispN (as := []) dc90_20 mc90 lm5_18 rfl rfl (Nat.le_of_ble_eq_true rfl)).trans ?_
  rw [i66 hd1 kx_s (by omega) f2 (by omega), pm_then_v]
  have f3 := K66_f (N := 6) f2
  have k3 := (K66_n (N := 6) (j := 0) (Or.inl (by omega))).trans k2
  refine (at_pfRT dc90_23 mc90 lf5_19 (by decide) k3).trans ?_
  refine (at_aload_n dc90_26 rfl).trans ?_
  refine (at_newT (N1 := 8) (c1 := c + 7) (s1 := s + 751) dc90_27 mc90 lc5_23 (f3 _ (by omega)) (by omega) rfl (by omega) (by show _ = _ + 3; omega)).trans ?_
  have f4 := kx_f (x := (0, 0)) (m1 := 8) f3 rfl
  have k4 := kx_k (x := (0, 0)) (m := 7) k3 (by omega)
  refine (at_dup dc90_30 rfl).trans ?_
  refine (at_ispN (as := []) dc90_31 mc90 lm5_25 rfl rfl (Nat.le_of_ble_eq_true rfl)).trans ?_
  rw [i0 hd1 kx_s (by omega) f4 (by omega), pm_then_v]
  have f5 := K0_f (N := 8) f4
  have k5 := (K0_n (N := 8) (j := 0) (Or.inl (by omega))).trans k4
  refine (at_pfRT dc90_34 mc90 lf5_26 (by decide) k5).trans ?_
  refine (at_aload_n dc90_37 rfl).trans ?_
  refine (at_newT (N1 := 10) (c1 := c + 9) (s1 := s + 1233) dc90_38 mc90 lc5_30 (f5 _ (by omega)) (by omega) rfl (by omega) (by show _ = _ + 2; omega)).trans ?_
  have f6 := kx_f (x := (1, 0)) (m1 := 10) f5 rfl
  have k6 := kx_k (x := (1, 0)) (m := 9) k5 (by omega)
  refine (at_dup dc90_41 rfl).trans ?_
  refine (at_ispN (as := []) dc90_42 mc90 lm5_32 rfl rfl (Nat.le_of_ble_eq_true rfl)).trans ?_
  rw [i5 hd1 kx_s (by omega) f6 (by omega), pm_then_v]
  have f7 := K5_f (N := 10) f6
  have k7 := (K5_n (N := 10) (j := 0) (Or.inl (by omega))).trans k6
  refine (at_pfRT dc90_45 mc90 lf5_33 (by decide) k7).trans ?_
  refine (at_aload_n dc90_48 rfl).trans ?_
  refine (at_newT (N1 := 12) (c1 := c + 11) (s1 := s + 1263) dc90_49 mc90 lc5_37 (f7 _ (by omega)) (by omega) rfl (by omega) (by show _ = _ + 14; omega)).trans ?_
  have f8 := kx_f (x := (3, 0)) (m1 := 12) f7 rfl
  have k8 := kx_k (x := (3, 0)) (m := 11) k7 (by omega)
  refine (at_dup dc90_52 rfl).trans ?_
  refine (at_ispN (as := []) dc90_53 mc90 lm5_39 rfl rfl (Nat.le_of_ble_eq_true rfl)).trans ?_
  rw [i25 hd1 kx_s (by omega) f8 (by omega), pm_then_v]
  have f9 := K25_f (N := 12) f8
  have k9 := (K25_n (N := 12) (j := 0) (Or.inl (by omega))).trans k8
  refine (at_pfRT dc90_56 mc90 lf5_40 (by decide) k9).trans ?_
  refine (at_aload_n dc90_59 rfl).trans ?_
  refine (at_newT (N1 := 22) (c1 := c + 21) (s1 := s + 1327) dc90_60 mc90 lc5_37 (f9 _ (by omega)) (by omega) rfl (by omega) (by show _ = _ + 14; omega)).trans ?_
  have f10 := kx_f (x := (3, 0)) (m1 := 22) f9 rfl
  have k10 := kx_k (x := (3, 0)) (m := 21) k9 (by omega)
  refine (at_dup dc90_63 rfl).trans ?_
  refine (at_ispN (as := []) dc90_64 mc90 lm5_39 rfl rfl (Nat.le_of_ble_eq_true rfl)).trans ?_
  rw [i25 hd1 kx_s (by omega) f10 (by omega), pm_then_v]
  have f11 := K25_f (N := 22) f10
  have k11 := (K25_n (N := 22) (j := 0) (Or.inl (by omega))).trans k10
  refine (at_pfRT dc90_67 mc90 lf5_44 (by decide) k11).trans ?_
  refine (at_aload_n dc90_70 rfl).trans ?_
  refine (at_iconst (v := 2) dc90_71 rfl).trans ?_
  refine (at_anaT (k := 2) (N1 := 32) (c1 := c + 31) (s1 := s + 1379) dc90_72 mc90 lc5_37 (by decide) rfl (by decide) (f11 _ (by omega)) (by omega) rfl (by omega) (by omega)).trans ?_
  have k12 := kx_k (x := (11, 2)) (m := 31) k11 (by omega)
  refine (at_pfRT dc90_75 mc90 lf5_47 (by decide) k12).trans ?_
  exact at_vret dc90_78 mr90
end C3

/-! numbers: helpers for the specifications -/
theorem pm_d1 {d n : Nat} (h : n + 1 ≤ d) : ∃ e, d = e + 1 ∧ n ≤ e := ⟨d - 1, by omega, by omega⟩
theorem lt_i {x y : Int32} : x < y ↔ x.toInt < y.toInt := Int32.lt_iff_toInt_lt
theorem le_i {x y : Int32} : x ≤ y ↔ x.toInt ≤ y.toInt := Int32.le_iff_toInt_le
theorem eq_i {x y : Int32} : x = y ↔ x.toInt = y.toInt := ⟨fun h => by rw [h], fun h => Int32.toInt_inj.mp h⟩
theorem bz_0 {c : Prop} [Decidable c] : ((if c then (1 : Int32) else 0) = 0) ↔ ¬ c := by by_cases h : c <;> simp [h]
theorem bz_n {c : Prop} [Decidable c] : (¬ (if c then (1 : Int32) else 0) = 0) ↔ c := by by_cases h : c <;> simp [h]
theorem bz_1 {c : Prop} [Decidable c] : ((if c then (1 : Int32) else 0) = 1) ↔ c := by by_cases h : c <;> simp [h]
theorem iw_s {iv : pm_V} {a i : Nat} {x : Int32} : pm_iw iv a i x a = upd (iv a) i x := by simp [pm_iw]
theorem iw_n {iv : pm_V} {a i b : Nat} {x : Int32} (h : b ≠ a) : pm_iw iv a i x b = iv b := by simp [pm_iw, h]
theorem ir_s {iv : pm_V} {a : Nat} {f : Nat → Int32} : pm_ir iv a f a = f := by simp [pm_ir]
theorem ir_n {iv : pm_V} {a b : Nat} {f : Nat → Int32} (h : b ≠ a) : pm_ir iv a f b = iv b := by simp [pm_ir, h]
theorem upd_s {f : Nat → Int32} {k : Nat} {x : Int32} : upd f k x k = x := by simp [upd]
theorem upd_n {f : Nat → Int32} {k j : Nat} {x : Int32} (h : j ≠ k) : upd f k x j = f j := by simp [upd, h]
theorem iw_ir {iv : pm_V} {a i : Nat} {x : Int32} : pm_iw iv a i x = pm_ir iv a (upd (iv a) i x) := rfl
theorem ir_ir {iv : pm_V} {a : Nat} {f f' : Nat → Int32} : pm_ir (pm_ir iv a f) a f' = pm_ir iv a f' := by
  funext k; by_cases h : k = a <;> simp [pm_ir, h]
theorem ir_self {iv : pm_V} {a : Nat} : pm_ir iv a (iv a) = iv := by
  funext k; by_cases h : k = a <;> simp [pm_ir, h]
theorem nI_t {n : Nat} (h : n < 2147483648) : (nI n).toInt = (n : Int) := nI_toInt h
theorem nI_c {n : Nat} (h : n < 2147483648) : (nI n).toNatClampNeg = n := nI_clamp h
theorem toI0 : (0 : Int32).toInt = 0 := rfl
theorem toI1 : (1 : Int32).toInt = 1 := rfl
/-- a number in a range is a natural one -/
theorem i_nI {x : Int32} (h : 0 ≤ x.toInt) : ∃ j : Nat, j < 2147483648 ∧ x = nI j ∧ (j : Int) = x.toInt := by
  obtain ⟨j, hj, rfl⟩ := nI_of (x := x) (by rw [lt_i, toI0]; omega)
  exact ⟨j, hj, rfl, (nI_t hj).symm⟩
theorem vp_i {x : Int32} {n : Nat} (h0 : 0 ≤ x.toInt) (h1 : x.toInt < n) : vp_in x n := vp_in_iff.mpr ⟨h0, h1⟩
theorem vp_n {j n : Nat} (h : j < n) (hn : n < 2147483648) : vp_in (nI j) n := vp_in_nI h hn
theorem z10 : ((1 : Int32) = 0) = False := eq_false (by decide)
theorem z01 : ((0 : Int32) = 1) = False := eq_false (by decide)
theorem zz0 : ((0 : Int32) = 0) = True := eq_true rfl

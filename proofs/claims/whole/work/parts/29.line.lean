/-! the class lines its houses up -/
def TUR (iv : pm_V) (k n : Nat) (T : Nat → Nat) : Prop := ∀ t, t < n → iv (k + 8) t = nI (T t)
section S4
variable {X : pm_X} {d k : Nat} {g : pm_G} {bg T : Nat → Nat}
theorem t_lineUp_in {n : Nat} (hd : 2 ≤ d) (hK : pm_sl g k) (h6 : n ≤ 6) {j : Nat} (hj : j < n) (hs : Srt bg T j) (hB : ∀ h, h ≤ j → bg h < 1000) : ∀ q (iv : pm_V), q ≤ j → BG iv k (j + 1) bg → iv k 2 = nI n → (∀ t, t < q → iv (k + 8) t = nI (T t)) → (∀ t, q < t → t ≤ j → iv (k + 8) t = nI (T (t - 1))) → (∀ t, q ≤ t → t < j → bg (T t) < bg j) →
    ∃ iv' q' T' z3, pm_at X d 61 (76, [some (.ref k), some (.int (nI j)), some (.int (nI (bg j))), some (.int (nI q))], [], g, iv) = pm_at X d 61 (16, [some (.ref k), some (.int (nI (j + 1))), some (.int (nI (bg j))), some (.int z3)], [], g, iv') ∧ chg [k + 8] iv iv' ∧ TUR iv' k (j + 1) T' ∧ T' = ins T q' j ∧ Srt bg T' (j + 1) := by
  have fin : ∀ q (iv : pm_V), q ≤ j → (∀ t, t < q → iv (k + 8) t = nI (T t)) → (∀ t, q < t → t ≤ j → iv (k + 8) t = nI (T (t - 1))) → (∀ t, q ≤ t → t < j → bg (T t) < bg j) → (0 < q → bg j ≤ bg (T (q - 1))) →
      ∃ iv' q' T' z3, pm_at X d 61 (116, [some (.ref k), some (.int (nI j)), some (.int (nI (bg j))), some (.int (nI q))], [], g, iv) = pm_at X d 61 (16, [some (.ref k), some (.int (nI (j + 1))), some (.int (nI (bg j))), some (.int z3)], [], g, iv') ∧ chg [k + 8] iv iv' ∧ TUR iv' k (j + 1) T' ∧ T' = ins T q' j ∧ Srt bg T' (j + 1) := by
    intro q iv hq h1 h2 lo up
    have hin : vp_in (nI q) 6 := vp_n (by omega) (by decide)
    refine ⟨pm_iw iv (k + 8) q (nI j), q, ins T q j, nI q, ?_, chg_iw (by simp), ?_, rfl, Srt_ins hs hq lo up⟩
    · rw [b61_116 hK hin, nI_c (by omega), nI_1]
    · intro t ht
      rw [iw_s]
      unfold ins
      by_cases e : t = q
      · rw [e, upd_s, if_neg (Nat.lt_irrefl q), if_pos rfl]
      · rw [upd_n e]
        by_cases a : t < q
        · rw [if_pos a]; exact h1 t a
        · rw [if_neg a, if_neg e]; exact h2 t (by omega) (by omega)
  intro q
  induction q with
  | zero =>
    intro iv hq hb hn h1 h2 lo
    obtain ⟨iv', q', T', z3, e1, e2⟩ := fin 0 iv hq h1 h2 lo (fun a => absurd a (Nat.lt_irrefl 0))
    refine ⟨iv', q', T', z3, ?_, e2⟩
    rw [b61_76, if_pos (by decide)]
    exact e1
  | succ q ih =>
    intro iv hq hb hn h1 h2 lo
    have hTq := hs.2.1 q (by omega)
    have hin : vp_in (nI q) 6 := vp_n (by omega) (by decide)
    have hin1 : vp_in (nI (q + 1)) 6 := vp_n (by omega) (by decide)
    have b1 := hB j (Nat.le_refl j)
    have b2 := hB (T q) (by omega)
    have hq8 := h1 q (by omega)
    rw [b61_76, if_neg (nI_nle (by omega) (by omega)), b61_80 hK (by rw [nI_pred]; exact hin), nI_pred, nI_c (by omega), hq8, t_begunOf hd hK hn h6 hb (by omega) (by omega), pm_then_i, b61_92]
    by_cases a : bg j ≤ bg (T q)
    · rw [if_pos (nI_le a (by omega))]
      exact fin (q + 1) iv hq h1 h2 lo (fun _ => a)
    · rw [if_neg (nI_ge (by omega) (by omega)), b61_96 hK (by rw [nI_pred]; exact hin) hin1, nI_pred, nI_c (by omega), nI_c (by omega), hq8, show nI (q + 1) + (-1) = nI q from (Int32.sub_eq_add_neg (nI (q + 1)) 1).symm.trans (nI_pred q)]
      obtain ⟨iv', q', T', z3, e1, e2, e3⟩ := ih (pm_iw iv (k + 8) (q + 1) (nI (T q))) (by omega) (fun h hh => by rw [iw_n (by omega)]; exact hb h hh) (by rw [iw_n (by omega)]; exact hn)
        (fun t ht => by rw [iw_s, upd_n (by omega)]; exact h1 t (by omega))
        (fun t ht ht2 => by
          rw [iw_s]
          by_cases e : t = q + 1
          · rw [e, upd_s]; rfl
          · rw [upd_n e]; exact h2 t (by omega) ht2)
        (fun t ht ht2 => by
          by_cases e : t = q
          · rw [e]; omega
          · exact lo t (by omega) ht2)
      exact ⟨iv', q', T', z3, e1, chg_tr (chg_iw (by simp)) e2, e3⟩
end S4

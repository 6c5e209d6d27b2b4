/-! the order of a winter's turns -/
theorem srt_eq {lt : Nat → Nat → Prop} (irr : ∀ a, ¬ lt a a) (asy : ∀ a b, lt a b → ¬ lt b a) : ∀ L M : List Nat, L.Pairwise lt → M.Pairwise lt → (∀ a, a ∈ L ↔ a ∈ M) → L = M
  | [], [], _, _, _ => rfl
  | [], b :: M, _, _, h => absurd ((h b).mpr (List.mem_cons_self)) (by simp)
  | a :: L, [], _, _, h => absurd ((h a).mp (List.mem_cons_self)) (by simp)
  | a :: L, b :: M, hl, hm, h => by
    have hl1 := List.pairwise_cons.mp hl
    have hm1 := List.pairwise_cons.mp hm
    have e : a = b := by
      by_cases q : a = b
      · exact q
      · have h1 : a ∈ M := by
          rcases List.mem_cons.mp ((h a).mp (List.mem_cons_self)) with c | c
          · exact absurd c q
          · exact c
        have h2 : b ∈ L := by
          rcases List.mem_cons.mp ((h b).mpr (List.mem_cons_self)) with c | c
          · exact absurd c.symm q
          · exact c
        exact absurd (hm1.1 a h1) (asy _ _ (hl1.1 b h2))
    subst e
    have t : L = M := srt_eq irr asy L M hl1.2 hm1.2 (fun x => by
      constructor
      · intro hx
        rcases List.mem_cons.mp ((h x).mp (List.mem_cons_of_mem _ hx)) with c | c
        · subst c; exact absurd (hl1.1 x hx) (irr x)
        · exact c
      · intro hx
        rcases List.mem_cons.mp ((h x).mpr (List.mem_cons_of_mem _ hx)) with c | c
        · subst c; exact absurd (hm1.1 x hx) (irr x)
        · exact c)
    rw [t]
/-- a's turn is before b's -/
def tlt (bg : Nat → Nat) (a b : Nat) : Prop := bg b < bg a ∨ (bg a = bg b ∧ a < b)
theorem tlt_irr {bg : Nat → Nat} (a : Nat) : ¬ tlt bg a a := by unfold tlt; omega
theorem tlt_asy {bg : Nat → Nat} (a b : Nat) (h : tlt bg a b) : ¬ tlt bg b a := by unfold tlt at *; omega
def oY (bg : Nat → Nat) (y : Nat) : Nat → Nat → List Nat
  | 0, _ => []
  | m + 1, j => if bg j = y then j :: oY bg y m (j + 1) else oY bg y m (j + 1)
def oD (bg : Nat → Nat) (n : Nat) : Nat → List Nat
  | 0 => []
  | y + 1 => oY bg y n 0 ++ oD bg n y
theorem oY_mem {bg : Nat → Nat} {y a : Nat} : ∀ m j, a ∈ oY bg y m j ↔ j ≤ a ∧ a < j + m ∧ bg a = y
  | 0, j => by simp [oY]; omega
  | m + 1, j => by
    have ih := oY_mem (bg := bg) (y := y) (a := a) m (j + 1)
    rw [oY]
    by_cases e : bg j = y
    · rw [if_pos e, List.mem_cons, ih]
      constructor
      · intro h
        rcases h with c | c
        · subst c; exact ⟨Nat.le_refl _, by omega, e⟩
        · exact ⟨by omega, by omega, c.2.2⟩
      · intro h
        by_cases q : a = j
        · exact Or.inl q
        · exact Or.inr ⟨by omega, by omega, h.2.2⟩
    · rw [if_neg e, ih]
      constructor
      · intro c; exact ⟨by omega, by omega, c.2.2⟩
      · intro h
        by_cases q : a = j
        · subst q; exact absurd h.2.2 e
        · exact ⟨by omega, by omega, h.2.2⟩
theorem oY_srt {bg : Nat → Nat} {y : Nat} : ∀ m j, (oY bg y m j).Pairwise (tlt bg)
  | 0, j => by rw [oY]; exact List.Pairwise.nil
  | m + 1, j => by
    have ih := oY_srt (bg := bg) (y := y) m (j + 1)
    rw [oY]
    by_cases e : bg j = y
    · rw [if_pos e]
      refine List.pairwise_cons.mpr ⟨fun b hb => ?_, ih⟩
      have hb := (oY_mem m (j + 1)).mp hb
      exact Or.inr ⟨by rw [e, hb.2.2], by omega⟩
    · rw [if_neg e]; exact ih
theorem oD_mem {bg : Nat → Nat} {n a : Nat} : ∀ y, a ∈ oD bg n y ↔ a < n ∧ bg a < y
  | 0 => by simp [oD]
  | y + 1 => by
    rw [oD, List.mem_append, oY_mem, oD_mem y]
    omega
theorem oD_srt {bg : Nat → Nat} {n : Nat} : ∀ y, (oD bg n y).Pairwise (tlt bg)
  | 0 => by rw [oD]; exact List.Pairwise.nil
  | y + 1 => by
    rw [oD]
    refine List.pairwise_append.mpr ⟨oY_srt n 0, oD_srt y, fun a ha b hb => ?_⟩
    have ha := (oY_mem n 0).mp ha
    have hb := (oD_mem y).mp hb
    exact Or.inl (by omega)
theorem rlY_fold {v : HV} {he : Nat → Bool} {bg : Nat → Nat} {w y : Nat} : ∀ m j pl, rlY v he bg w y m j pl = (oY bg y m j).foldl (rlH v he bg w) pl
  | 0, _, _ => rfl
  | m + 1, j, pl => by
    rw [rlY, oY, rlY_fold m]
    by_cases e : bg j = y
    · rw [if_pos e, if_pos e]; rfl
    · rw [if_neg e, if_neg e]
theorem rlD_fold {v : HV} {he : Nat → Bool} {bg : Nat → Nat} {w : Nat} : ∀ y pl, rlD v he bg w y pl = (oD bg (vN v) y).foldl (rlH v he bg w) pl
  | 0, _ => rfl
  | y + 1, pl => by rw [rlD, oD, rlD_fold y, List.foldl_append, rlY_fold]
/-- the turns as a list, m of them from t on -/
def tuL (T : Nat → Nat) : Nat → Nat → List Nat
  | 0, _ => []
  | m + 1, t => T t :: tuL T m (t + 1)
theorem tuL_mem {T : Nat → Nat} {a : Nat} : ∀ m t, a ∈ tuL T m t ↔ ∃ s, t ≤ s ∧ s < t + m ∧ T s = a
  | 0, t => by
    simp only [tuL, List.not_mem_nil, false_iff]
    intro ⟨s, h1, h2, _⟩
    omega
  | m + 1, t => by
    rw [tuL, List.mem_cons, tuL_mem m (t + 1)]
    constructor
    · intro h
      rcases h with c | ⟨s, h1, h2, h3⟩
      · exact ⟨t, Nat.le_refl _, by omega, c.symm⟩
      · exact ⟨s, by omega, by omega, h3⟩
    · intro ⟨s, h1, h2, h3⟩
      by_cases q : s = t
      · subst q; exact Or.inl h3.symm
      · exact Or.inr ⟨s, by omega, by omega, h3⟩
/-- sorted turns -/
def Srt (bg T : Nat → Nat) (n : Nat) : Prop := (∀ s t, s < t → t < n → tlt bg (T s) (T t)) ∧ (∀ t, t < n → T t < n) ∧ ∀ h, h < n → ∃ t, t < n ∧ T t = h
theorem tuL_srt {bg T : Nat → Nat} {n : Nat} (hs : ∀ s t, s < t → t < n → tlt bg (T s) (T t)) : ∀ m t, t + m = n → (tuL T m t).Pairwise (tlt bg)
  | 0, t, _ => by rw [tuL]; exact List.Pairwise.nil
  | m + 1, t, h => by
    rw [tuL]
    refine List.pairwise_cons.mpr ⟨fun b hb => ?_, tuL_srt hs m (t + 1) (by omega)⟩
    obtain ⟨s, h1, h2, h3⟩ := (tuL_mem m (t + 1)).mp hb
    rw [← h3]
    exact hs t s (by omega) (by omega)
theorem Srt_oD {bg T : Nat → Nat} {n y : Nat} (hs : Srt bg T n) (hb : ∀ h, h < n → bg h < y) : tuL T n 0 = oD bg n y := by
  refine srt_eq tlt_irr tlt_asy _ _ (tuL_srt hs.1 n 0 (by omega)) (oD_srt y) (fun a => ?_)
  rw [tuL_mem, oD_mem]
  constructor
  · intro ⟨s, _, h2, h3⟩
    have := hs.2.1 s (by omega)
    rw [h3] at this
    exact ⟨this, hb a this⟩
  · intro ⟨h1, _⟩
    obtain ⟨t, h3, h4⟩ := hs.2.2 a h1
    exact ⟨t, by omega, by omega, h4⟩
/-- house j goes in at q -/
def ins (T : Nat → Nat) (q j : Nat) : Nat → Nat := fun t => if t < q then T t else if t = q then j else T (t - 1)
theorem Srt_ins {bg T : Nat → Nat} {q j : Nat} (hs : Srt bg T j) (hq : q ≤ j) (lo : ∀ t, q ≤ t → t < j → bg (T t) < bg j) (up : 0 < q → bg j ≤ bg (T (q - 1))) : Srt bg (ins T q j) (j + 1) := by
  have up2 : ∀ t, t < q → bg j ≤ bg (T t) := by
    intro t ht
    have u := up (by omega)
    by_cases e : t = q - 1
    · rw [e]; exact u
    · have := hs.1 t (q - 1) (by omega) (by omega)
      unfold tlt at this
      omega
  refine ⟨fun s t h1 h2 => ?_, fun t ht => ?_, fun h hh => ?_⟩
  · unfold ins
    by_cases a : t < q
    · rw [if_pos (by omega), if_pos a]
      exact hs.1 s t h1 (by omega)
    · rw [if_neg a]
      by_cases b : t = q
      · rw [if_pos b, if_pos (by omega)]
        have := up2 s (by omega)
        have := hs.2.1 s (by omega)
        unfold tlt
        omega
      · rw [if_neg b]
        by_cases c : s < q
        · rw [if_pos c]
          exact hs.1 s (t - 1) (by omega) (by omega)
        · rw [if_neg c]
          by_cases e : s = q
          · rw [if_pos e]
            exact Or.inl (lo (t - 1) (by omega) (by omega))
          · rw [if_neg e]
            exact hs.1 (s - 1) (t - 1) (by omega) (by omega)
  · unfold ins
    by_cases a : t < q
    · rw [if_pos a]; have := hs.2.1 t (by omega); omega
    · rw [if_neg a]
      by_cases b : t = q
      · rw [if_pos b]; omega
      · rw [if_neg b]; have := hs.2.1 (t - 1) (by omega); omega
  · by_cases e : h = j
    · exact ⟨q, by omega, by unfold ins; rw [if_neg (by omega), if_pos rfl, e]⟩
    · obtain ⟨t, h1, h2⟩ := hs.2.2 h (by omega)
      by_cases a : t < q
      · exact ⟨t, by omega, by unfold ins; rw [if_pos a, h2]⟩
      · exact ⟨t + 1, by omega, by unfold ins; rw [if_neg (by omega), if_neg (by omega), Nat.add_sub_cancel, h2]⟩

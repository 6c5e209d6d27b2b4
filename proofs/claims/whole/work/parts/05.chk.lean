/-! the tables of the small machine, held against the claim's words -/
theorem pm_has_mem {w : Cond} {p : Nat} (h : pm_has w p = true) : w ∈ pm_TB := by
  simp only [pm_has, Bool.and_eq_true, decide_eq_true_eq] at h
  exact List.mem_filter.mpr ⟨List.mem_of_getElem? h.1, h.2⟩
def pm_T (c : Nat) : u_T := ((pm_cl[c]?).getD ("", fun _ => ("", "", "", false), 0)).2.1
theorem pm_lk_mem {α β : Type} [BEq α] [LawfulBEq α] : ∀ {l : List (α × β)} {k : α} {v : β}, l.lookup k = some v → (k, v) ∈ l := by
  intro l
  induction l with
  | nil => intro k v h; cases h
  | cons a t ih =>
    intro k v h
    obtain ⟨a1, a2⟩ := a
    rw [List.lookup_cons] at h
    by_cases he : k == a1
    · rw [he] at h
      cases h
      rw [eq_of_beq he]
      exact List.mem_cons_self
    · simp only [Bool.not_eq_true] at he
      rw [he] at h
      exact List.mem_cons_of_mem _ (ih h)
theorem pm_cl_at : ∀ c, c < 7 → pm_cl[c]? = some (pm_cn c, pm_T c, pm_nf c) := by
  intro c hc
  rcases (show c = 0 ∨ c = 1 ∨ c = 2 ∨ c = 3 ∨ c = 4 ∨ c = 5 ∨ c = 6 by omega) with rfl | rfl | rfl | rfl | rfl | rfl | rfl <;> rfl
def pm_lfk : Bool := pm_lft.all fun e => if e.2.1 = 100 then pm_has (.fieldLink (pm_cn e.1.1) e.1.2 "java/lang/String" (if e.2.2.1 = 0 then "value" else "coder") (if e.2.2.1 = 0 then "[B" else "B")) e.2.2.2
  else decide (e.2.1 < 7) && decide (e.2.2.1 < pm_nf e.2.1) && pm_has (.fieldLink (pm_cn e.1.1) e.1.2 (pm_T e.2.1 e.2.2.1).1 (pm_T e.2.1 e.2.2.1).2.1 (pm_T e.2.1 e.2.2.1).2.2.1) e.2.2.2
theorem pm_lfk_ok : pm_lfk = true := by decide +kernel
theorem pm_lf_w {k : Nat × Nat} {ci sl p : Nat} (h : pm_lft.lookup k = some (ci, sl, p)) (hn : ¬ ci = 100) : Cond.fieldLink (pm_cn k.1) k.2 (pm_T ci sl).1 (pm_T ci sl).2.1 (pm_T ci sl).2.2.1 ∈ pm_TB := by
  have h1 := List.all_eq_true.mp pm_lfk_ok _ (pm_lk_mem h)
  simp only [hn, if_false, Bool.and_eq_true] at h1
  exact pm_has_mem h1.2
theorem pm_lf_s {k : Nat × Nat} {sl p : Nat} (h : pm_lft.lookup k = some (100, sl, p)) : Cond.fieldLink (pm_cn k.1) k.2 "java/lang/String" (if sl = 0 then "value" else "coder") (if sl = 0 then "[B" else "B") ∈ pm_TB := by
  have h1 := List.all_eq_true.mp pm_lfk_ok _ (pm_lk_mem h)
  simp only [if_true] at h1
  exact pm_has_mem h1
/-- statics: class, name, descriptor -/
def pm_sn : List (String × String × String) := [("HillHouses$Asker", "PARENT", "[I"), ("HillHouses$Asker", "SIZE_BODY", "[I"), ("HillHouses$Asker", "MARK_BODY", "[I"), ("java/lang/String", "COMPACT_STRINGS", "Z"), ("jdk/internal/util/Preconditions", "SIOOBE_FORMATTER", "Ljava/util/function/BiFunction;")]
def pm_sna (k : Nat) : String × String × String := (pm_sn[k]?).getD ("", "", "")
def pm_lsk : Bool := pm_lst.all fun e => decide (e.2.1 < 5) && pm_has (.fieldLink (pm_cn e.1.1) e.1.2 (pm_sna e.2.1).1 (pm_sna e.2.1).2.1 (pm_sna e.2.1).2.2) e.2.2
theorem pm_lsk_ok : pm_lsk = true := by decide +kernel
theorem pm_ls_w {k : Nat × Nat} {j p : Nat} (h : pm_lst.lookup k = some (j, p)) : j < 5 ∧ Cond.fieldLink (pm_cn k.1) k.2 (pm_sna j).1 (pm_sna j).2.1 (pm_sna j).2.2 ∈ pm_TB := by
  have h1 := List.all_eq_true.mp pm_lsk_ok _ (pm_lk_mem h)
  simp only [Bool.and_eq_true, decide_eq_true_eq] at h1
  exact ⟨h1.1, pm_has_mem h1.2⟩
def pm_lck : Bool := pm_lct.all fun e => decide (e.2.1 < 7) && pm_has (.classLink (pm_cn e.1.1) e.1.2 (pm_cn e.2.1)) e.2.2
theorem pm_lck_ok : pm_lck = true := by decide +kernel
theorem pm_lc_w {k : Nat × Nat} {j p : Nat} (h : pm_lct.lookup k = some (j, p)) : j < 7 ∧ Cond.classLink (pm_cn k.1) k.2 (pm_cn j) ∈ pm_TB := by
  have h1 := List.all_eq_true.mp pm_lck_ok _ (pm_lk_mem h)
  simp only [Bool.and_eq_true, decide_eq_true_eq] at h1
  exact ⟨h1.1, pm_has_mem h1.2⟩
def pm_lkk : Bool := pm_lkt.all fun e => pm_has (.constant (pm_cn e.1.1) e.1.2 e.2.1) e.2.2
theorem pm_lkk_ok : pm_lkk = true := by decide +kernel
theorem pm_lk_w {k : Nat × Nat} {v : Int32} {p : Nat} (h : pm_lkt.lookup k = some (v, p)) : Cond.constant (pm_cn k.1) k.2 v ∈ pm_TB := pm_has_mem (List.all_eq_true.mp pm_lkk_ok _ (pm_lk_mem h))
def pm_llk : Bool := pm_llt.all fun e => pm_has (.constantLong (pm_cn e.1.1) e.1.2 e.2.1) e.2.2
theorem pm_llk_ok : pm_llk = true := by decide +kernel
theorem pm_ll_w {k : Nat × Nat} {v : Int64} {p : Nat} (h : pm_llt.lookup k = some (v, p)) : Cond.constantLong (pm_cn k.1) k.2 v ∈ pm_TB := pm_has_mem (List.all_eq_true.mp pm_llk_ok _ (pm_lk_mem h))
/-- a string constant's entry is the one that its text has -/
def pm_ltk : Bool := pm_ltt.all fun e => decide (e.1.1 = 4) && match pm_stx[e.2]? with
  | some t => decide (t.1 = e.1.2)
  | none => false
theorem pm_ltk_ok : pm_ltk = true := by decide +kernel
theorem pm_lt_w {k : Nat × Nat} {j : Nat} (h : pm_ltt.lookup k = some j) : k.1 = 4 ∧ ∃ t, pm_stx[j]? = some t ∧ t.1 = k.2 := by
  have h1 := List.all_eq_true.mp pm_ltk_ok _ (pm_lk_mem h)
  simp only [Bool.and_eq_true, decide_eq_true_eq] at h1
  refine ⟨h1.1, ?_⟩
  cases ht : pm_stx[j]? with
  | none => rw [ht] at h1; exact absurd h1.2 Bool.false_ne_true
  | some t => rw [ht] at h1; exact ⟨t, rfl, of_decide_eq_true h1.2⟩
/-- a method's own words; the law (the last) is nobody's callee -/
def pm_mtk : Bool := (List.range (pm_mt.length - 1)).all fun i => pm_has (if pm_mk i = 1 then .static (pm_my i) else .instanceMethod (pm_my i)) (pm_m i).2.2.2.2.2.2.2.1 && pm_has (.initialized (pm_my i).cls) (pm_m i).2.2.2.2.2.2.2.2.1
  && (if pm_mk i = 0 then pm_has (.selects (pm_my i).cls (pm_my i) (pm_my i)) (pm_m i).2.2.2.2.2.2.2.2.2 else true)
  && decide ((pm_my i).cls = pm_cn (pm_mc i)) && plainName (pm_my i).cls && decide ((pm_my i).cls ≠ "java/lang/invoke/MethodHandle") && decide ((pm_my i).cls ≠ "java/lang/invoke/VarHandle") && decide (pm_ml i ≤ 40) && (if pm_mk i = 2 then decide ((pm_my i).name = "<init>") && decide (pm_mr i = none) else true)
theorem pm_mtk_ok : pm_mtk = true := by decide +kernel
def pm_MOK (i : Nat) : Prop := Cond.code (pm_my i) (pm_mb i) (pm_ml i) (pm_mr i) ∈ pm_TB ∧ (if pm_mk i = 1 then Cond.static (pm_my i) else Cond.instanceMethod (pm_my i)) ∈ pm_TB ∧ Cond.initialized (pm_my i).cls ∈ pm_TB ∧ (pm_mk i = 0 → Cond.selects (pm_my i).cls (pm_my i) (pm_my i) ∈ pm_TB) ∧ (pm_my i).cls = pm_cn (pm_mc i) ∧ plainName (pm_my i).cls = true ∧ ((pm_my i).cls ≠ "java/lang/invoke/MethodHandle" ∧ (pm_my i).cls ≠ "java/lang/invoke/VarHandle") ∧ pm_ml i ≤ 40 ∧ (pm_mk i = 2 → (pm_my i).name = "<init>" ∧ pm_mr i = none)
theorem pm_m_ok {i : Nat} (hi : i < pm_mt.length - 1) : pm_MOK i := by
  have h1 := List.all_eq_true.mp pm_mtk_ok i (List.mem_range.mpr hi)
  simp only [Bool.and_eq_true, decide_eq_true_eq] at h1
  obtain ⟨⟨⟨⟨⟨⟨⟨⟨b, c⟩, d⟩, e⟩, f⟩, g⟩, h⟩, j⟩, k⟩ := h1
  refine ⟨pm_has_mem (pm_cw i hi), pm_has_mem b, pm_has_mem c, fun q => ?_, e, f, ⟨g, h⟩, j, fun q => ?_⟩
  · rw [if_pos q] at d
    exact pm_has_mem d
  · rw [if_pos q] at k
    simp only [Bool.and_eq_true, decide_eq_true_eq] at k
    exact k
/-- links to methods -/
def pm_lmk : Bool := pm_lmt.all fun e => match e.2 with
  | (0, t, n, p) => decide (t < pm_mt.length - 1) && decide (pm_mk t = 0) && pm_has (.methodLink (pm_cn e.1.1) e.1.2 (pm_my t)) p && decide ((parseMethodDescriptor (pm_my t).desc).map (fun d => d.parameters.length) = some n)
  | (1, t, n, p) => decide (t < pm_mt.length - 1) && decide (pm_mk t = 1) && pm_has (.methodLink (pm_cn e.1.1) e.1.2 (pm_my t)) p && decide ((parseMethodDescriptor (pm_my t).desc).map (fun d => d.parameters.length) = some n)
  | (2, t, n, p) => decide (t < pm_mt.length - 1) && decide (pm_mk t = 2) && pm_has (.methodLink (pm_cn e.1.1) e.1.2 (pm_my t)) p && decide ((parseMethodDescriptor (pm_my t).desc).map (fun d => d.parameters.length) = some n)
  | (3, t, n, p) => decide (t < pm_mt.length - 1) && decide (pm_mk t = 1) && decide ((pm_nst[p]?).map (fun q => (q.1, q.2.1, q.2.2.1)) = some (pm_cn e.1.1, e.1.2, pm_my t)) && decide ((parseMethodDescriptor (pm_my t).desc).map (fun d => d.parameters.length) = some n)
  | (4, t, n, p) => decide (t < pm_mt.length - 1) && decide (pm_mk t = 2) && decide ((pm_nst[p]?).map (fun q => (q.1, q.2.1, q.2.2.1)) = some (pm_cn e.1.1, e.1.2, pm_my t)) && decide ((parseMethodDescriptor (pm_my t).desc).map (fun d => d.parameters.length) = some n)
  | (5, _, _, p) => pm_has (.methodLink (pm_cn e.1.1) e.1.2 Lib.objectInit) p
  | (6, _, _, p) => pm_has (.methodLink (pm_cn e.1.1) e.1.2 arraycopyName) p
  | (7, _, _, p) => pm_has (.methodLink (pm_cn e.1.1) e.1.2 Lib.Math.min.name) p
  | (8, _, _, p) => pm_has (.methodLink (pm_cn e.1.1) e.1.2 Lib.Math.abs.name) p
  | _ => false
theorem pm_lmk_ok : pm_lmk = true := by decide +kernel
theorem pm_lm_012 {k : Nat × Nat} {q t n p : Nat} (hq : q < 3) (h : pm_lmt.lookup k = some (q, t, n, p)) : t < pm_mt.length - 1 ∧ pm_mk t = q ∧ Cond.methodLink (pm_cn k.1) k.2 (pm_my t) ∈ pm_TB ∧ (parseMethodDescriptor (pm_my t).desc).map (fun d => d.parameters.length) = some n := by
  have h1 := List.all_eq_true.mp pm_lmk_ok _ (pm_lk_mem h)
  rcases (show q = 0 ∨ q = 1 ∨ q = 2 by omega) with rfl | rfl | rfl <;>
    (simp only [Bool.and_eq_true, decide_eq_true_eq] at h1
     exact ⟨h1.1.1.1, h1.1.1.2, pm_has_mem h1.1.2, h1.2⟩)
theorem pm_lm_34 {k : Nat × Nat} {q t n p : Nat} (hq : q = 3 ∨ q = 4) (h : pm_lmt.lookup k = some (q, t, n, p)) : t < pm_mt.length - 1 ∧ pm_mk t = q - 2 ∧ (∃ host, (pm_cn k.1, k.2, pm_my t, host) ∈ pm_nst) ∧ (parseMethodDescriptor (pm_my t).desc).map (fun d => d.parameters.length) = some n := by
  have h1 := List.all_eq_true.mp pm_lmk_ok _ (pm_lk_mem h)
  rcases hq with rfl | rfl <;>
    (simp only [Bool.and_eq_true, decide_eq_true_eq] at h1
     refine ⟨h1.1.1.1, h1.1.1.2, ?_, h1.2⟩
     obtain ⟨z, hz, he⟩ := Option.map_eq_some_iff.mp h1.1.2
     obtain ⟨z1, z2, z3, z4⟩ := z
     cases he
     exact ⟨z4, List.mem_of_getElem? hz⟩)
theorem pm_lm_5 {k : Nat × Nat} {t n p : Nat} (h : pm_lmt.lookup k = some (5, t, n, p)) : Cond.methodLink (pm_cn k.1) k.2 Lib.objectInit ∈ pm_TB := pm_has_mem (List.all_eq_true.mp pm_lmk_ok _ (pm_lk_mem h))
theorem pm_lm_6 {k : Nat × Nat} {t n p : Nat} (h : pm_lmt.lookup k = some (6, t, n, p)) : Cond.methodLink (pm_cn k.1) k.2 arraycopyName ∈ pm_TB := pm_has_mem (List.all_eq_true.mp pm_lmk_ok _ (pm_lk_mem h))
theorem pm_lm_7 {k : Nat × Nat} {t n p : Nat} (h : pm_lmt.lookup k = some (7, t, n, p)) : Cond.methodLink (pm_cn k.1) k.2 Lib.Math.min.name ∈ pm_TB := pm_has_mem (List.all_eq_true.mp pm_lmk_ok _ (pm_lk_mem h))
theorem pm_lm_8 {k : Nat × Nat} {t n p : Nat} (h : pm_lmt.lookup k = some (8, t, n, p)) : Cond.methodLink (pm_cn k.1) k.2 Lib.Math.abs.name ∈ pm_TB := pm_has_mem (List.all_eq_true.mp pm_lmk_ok _ (pm_lk_mem h))
/-- words on their own -/
theorem pm_w_obj1 : Cond.instanceMethod Lib.objectInit ∈ pm_TB := pm_has_mem (p := 90) (by decide +kernel)
theorem pm_w_obj2 : Cond.code Lib.objectInit ⟨#[0xb1]⟩ 1 none ∈ pm_TB := pm_has_mem (p := 91) (by decide +kernel)
theorem pm_w_cp1 : Cond.native arraycopyName ∈ pm_TB := pm_has_mem (p := 310) (by decide +kernel)
theorem pm_w_cp2 : Cond.static arraycopyName ∈ pm_TB := pm_has_mem (p := 309) (by decide +kernel)
theorem pm_w_cp3 : Cond.initialized "java/lang/System" ∈ pm_TB := pm_has_mem (p := 76) (by decide +kernel)
theorem pm_w_min : Cond.static Lib.Math.min.name ∈ pm_TB := pm_has_mem (p := 708) (by decide +kernel)
theorem pm_w_abs : Cond.static Lib.Math.abs.name ∈ pm_TB := pm_has_mem (p := 701) (by decide +kernel)
theorem pm_w_math : Cond.initialized "java/lang/Math" ∈ pm_TB := pm_has_mem (p := 82) (by decide +kernel)
theorem pm_w_arI : Cond.arrayClass .int ∈ pm_TB := pm_has_mem (p := 111) (by decide +kernel)
theorem pm_w_arB : Cond.arrayClass .byte ∈ pm_TB := pm_has_mem (p := 143) (by decide +kernel)
theorem pm_w_arZ : Cond.arrayClass .boolean ∈ pm_TB := pm_has_mem (p := 928) (by decide +kernel)
def pm_insP : List Nat := [145, 161, 93, 174, 113, 85, 844]
/-- the classes' own words: they can be made, they stand initialised, their fields are laid -/
def pm_cok : Bool := (List.range 7).all fun c => pm_has (.instantiable (pm_cn c) (pm_nf c)) ((pm_insP[c]?).getD 0)
theorem pm_cok_ok : pm_cok = true := by decide +kernel
theorem pm_c_ins {c : Nat} (hc : c < 7) : Cond.instantiable (pm_cn c) (pm_nf c) ∈ pm_TB := pm_has_mem (List.all_eq_true.mp pm_cok_ok c (List.mem_range.mpr hc))
def pm_layP : List (List Nat) := [[153, 155, 157], [168, 170], [102, 104, 106, 108], [193, 195, 197, 199, 201, 203, 205, 207, 209, 211, 213, 215, 217, 219], [126, 128, 130, 132, 134, 136, 138, 140], [231, 233, 235, 237, 239, 241, 243, 245], [875, 877, 879, 881, 883, 885, 887, 889, 891, 893, 895, 897, 899, 901, 903, 905, 907, 909, 911, 913, 915, 917, 919, 921, 923, 925]]
def pm_lok : Bool := (List.range 7).all fun c => (List.range (pm_nf c)).all fun k => pm_has (u_lay (pm_cn c) (pm_T c) k) (((((pm_layP[c]?).getD [])[k]?)).getD 0)
theorem pm_lok_ok : pm_lok = true := by decide +kernel
theorem pm_c_lay {c : Nat} (hc : c < 7) : ∀ w ∈ u_ws (pm_cn c) (pm_T c) (pm_nf c), w ∈ pm_TB := by
  intro w hw
  obtain ⟨k, hk, rfl⟩ := List.mem_map.mp hw
  exact pm_has_mem (List.all_eq_true.mp (List.all_eq_true.mp pm_lok_ok c (List.mem_range.mpr hc)) k hk)
def pm_iniP : List Nat := [72, 73, 70, 74, 71, 69, 75]
def pm_iok : Bool := (List.range 7).all fun c => pm_has (.initialized (pm_cn c)) ((pm_iniP[c]?).getD 0)
theorem pm_iok_ok : pm_iok = true := by decide +kernel
theorem pm_c_ini {c : Nat} (hc : c < 7) : Cond.initialized (pm_cn c) ∈ pm_TB := pm_has_mem (List.all_eq_true.mp pm_iok_ok c (List.mem_range.mpr hc))
/-- the fields' names are apart, their descriptors are types, and these are as the tables of the small machine have them -/
def pm_tyf (c k : Nat) : FieldType := (parseFieldDescriptor (pm_T c k).2.2.1).getD .int
theorem pm_fn : ∀ c, c < 7 → ∀ a, a < pm_nf c → ∀ b, b < pm_nf c → a ≠ b → (pm_T c a).2.1 ≠ (pm_T c b).2.1 := by decide +kernel
theorem pm_fty : ∀ c, c < 7 → ∀ k, k < pm_nf c → parseFieldDescriptor (pm_T c k).2.2.1 = some (pm_tyf c k) := by decide +kernel
theorem pm_fff : ∀ c, c < 7 → ∀ k, k < pm_nf c → (pm_T c k).2.2.2 = pm_ff c k ∧ (pm_T c k).1 = pm_cn c := by decide +kernel
theorem pm_frf : ∀ c, c < 7 → ∀ k, k < pm_nf c → (pm_rf c k = false → pm_tyf c k = .int) ∧ (pm_rf c k = true → (∃ n, pm_tyf c k = .object n) ∨ ∃ t, pm_tyf c k = .array t) := by
  have h : ∀ c, c < 7 → ∀ k, k < pm_nf c → (pm_rf c k = false → pm_tyf c k = .int) ∧ (pm_rf c k = true → (match pm_tyf c k with | .object _ => true | .array _ => true | _ => false) = true) := by decide +kernel
  intro c hc k hk
  refine ⟨(h c hc k hk).1, fun hr => ?_⟩
  have h2 := (h c hc k hk).2 hr
  cases ht : pm_tyf c k <;> rw [ht] at h2 <;> first | exact Or.inl ⟨_, rfl⟩ | exact Or.inr ⟨_, rfl⟩ | exact absurd h2 Bool.false_ne_true

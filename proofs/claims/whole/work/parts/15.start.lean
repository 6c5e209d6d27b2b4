/-! THE CLAIM OUT OF ONE WALK OF THE LAW'S BODY. Your part is whole_start (and what it stands on); all else here is the same for every law, but numbers. -/
def R_law : String := "HillHousesLaw"
def lw_P (b : Addr) (xs : List Int32) (args : Array Value) (s : State) : Prop := args = #[.ref b] ∧ s.IntsAt b xs ∧ xs.length ≤ 3072 ∧ (Jvm.Cond.and given_1 narrow_1).before args s = true
def lw_Q (_ : Array Value) (s : State) (o : Outcome) (t : State) : Prop := o = .returned (some (.int 1)) ∧ Framed s o t [] 600000 7302250
def lw_Z (below : List Frame) (a : Array Value) (s : State) : State → Prop := fun t => ∃ o, t.status = .running ∧ Ended t below o ∧ lw_Q a s o t
/-- the law's own end, with 1 on the stack, nothing written that was there before, its room as the claim has it -/
theorem lw_ret {p : Program} {l : Launch} {e : Env} {s : State} {m : MethodId} {below : List Frame} {meth : Method} {c : Code} {b : Nat} (hx : p.tables.exec = Jvm.exec) (hb : c.code = code) (hr : meth.sig.returnType = ret) (hlocks : meth.locks = false) {pc : Nat} {H : Heap} {ls : Array Slot} (hdg : decode code pc = .ok (.ireturn, 1)) : W p l e room_1 s m #[Value.ref b] below meth c H [] 600000 7302250 (lw_Z below #[Value.ref b] s) (F0 m pc ls [.int 1]) := by
  intro T hT X
  obtain ⟨fs, hret, hrun, hended, hW, hframe⟩ := X.leave (v := some (.int 1)) (hlocks := hlocks) (fun h => by rw [hr] at h; cases h)
  have hmeth' : T.vm.method? m = some meth := X.method'
  refine ⟨T.setFrames fs, ?_, .returned (some (.int 1)), hrun, hended, rfl, ⟨_, rfl⟩, hW, hframe⟩
  jvm_step X.here [X.here.top, hx, hb, hdg, hmeth', hr, ret, narrow_b1]
  (try refine ⟨rfl, ?_⟩); (try refine ⟨rfl, ?_⟩)
  first | (intro acts; rw [hret _ acts rfl rfl rfl]) | rw [hret _ _ rfl rfl rfl]
  exact Steps.refl _
/-- what holds at the law's entry: the machine, the code, the tables' words (any of lw_tbl by 'hts w (by decide +kernel)'), the script of L ints xs at the cell b, what the Statement gives of the start (any of its parts by flat_of_before) -/
def lw_At (p : Program) (s : State) (m : MethodId) (meth : Method) (c : Code) (b L : Nat) (xs : Nat → Int32) : Prop :=
  p.tables.exec = Jvm.exec ∧ c.code = code ∧ meth.sig.returnType = ret ∧ c.maxLocals = 4 ∧ s.vm.findClass R_law = some m.cls ∧ (∀ w ∈ lw_tbl, w.before #[Value.ref b] s = true) ∧ va_X b L xs s s.heap ∧ b < s.heap.size ∧ meth.locks = false ∧ (Jvm.Cond.and given_1 narrow_1).before #[Value.ref b] s = true
/-! THE LAW'S START in the words of the small machine -/
def pm_st0 (i : Nat) : Term := .string "HillHouses$Tape" (((pm_stx[i]?).getD (0, "")).1)
def pm_fl : List Cond := flatC (Jvm.Cond.and given_1 narrow_1)
theorem pm_f1 : ∀ i, i < 8 → Cond.exactly (pm_st0 i) "java/lang/String" ∈ pm_fl := by decide +kernel
theorem pm_f2 : ∀ i, i < 8 → Cond.eq (.field (pm_st0 i) "java/lang/String" "coder" "B") (.int 0) ∈ pm_fl := by decide +kernel
theorem pm_f3 : ∀ i, i < 8 → Cond.arrayOf (.field (pm_st0 i) "java/lang/String" "value" "[B") .byte ∈ pm_fl := by decide +kernel
theorem pm_f4 : ∀ i, i < 8 → Cond.eq (.length (.field (pm_st0 i) "java/lang/String" "value" "[B")) (.int (Int32.ofNat ((pm_sb.map List.length).getD i 0))) ∈ pm_fl := by decide +kernel
theorem pm_f5 : ∀ i, i < 8 → ∀ j, j < (pm_sb.map List.length).getD i 0 → Cond.eq (.elem (.field (pm_st0 i) "java/lang/String" "value" "[B") (.int (Int32.ofNat j))) (.int ((pm_sb.getD i []).getD j 0)) ∈ pm_fl := by decide +kernel
theorem pm_f6 : ∀ i, i < 8 → ∀ j, j < 8 → i ≠ j → Cond.not (Cond.eq (pm_st0 i) (pm_st0 j)) ∈ pm_fl ∨ Cond.not (Cond.eq (pm_st0 j) (pm_st0 i)) ∈ pm_fl := by decide +kernel
theorem pm_f7 : ∀ i, i < 8 → Cond.stringRef "HillHouses$Tape" (((pm_stx[i]?).getD (0, "")).1) (((pm_stx[i]?).getD (0, "")).2) ∈ lw_tbl := by decide +kernel
def pm_tt0 (j : Nat) : Term := .static "HillHouses$Asker" (((pm_tb[j]?).getD ("", [])).1) "[I"
theorem pm_f8 : ∀ j, j < 3 → Cond.arrayOf (pm_tt0 j) .int ∈ pm_fl := by decide +kernel
theorem pm_f9 : ∀ j, j < 3 → Cond.eq (.length (pm_tt0 j)) (.int (Int32.ofNat ((pm_tb[j]?).getD ("", [])).2.length)) ∈ pm_fl := by decide +kernel
theorem pm_f10 : ∀ j, j < 3 → ∀ i, i < ((pm_tb[j]?).getD ("", [])).2.length → Cond.eq (.elem (pm_tt0 j) (.int (Int32.ofNat i))) (.int (((pm_tb[j]?).getD ("", [])).2.getD i 0)) ∈ pm_fl := by decide +kernel
theorem pm_f11 : ∀ j, j < 3 → Cond.laysStatic "HillHouses$Asker" (((pm_tb[j]?).getD ("", [])).1) "[I" ∈ lw_tbl := by decide +kernel
theorem pm_f12 : Cond.initialized "HillHouses$Asker" ∈ lw_tbl ∧ Cond.initialized "java/lang/String" ∈ lw_tbl ∧ Cond.initialized "jdk/internal/util/Preconditions" ∈ lw_tbl ∧ Cond.laysStatic "java/lang/String" "COMPACT_STRINGS" "Z" ∈ lw_tbl ∧ Cond.laysStatic "jdk/internal/util/Preconditions" "SIOOBE_FORMATTER" "Ljava/util/function/BiFunction;" ∈ lw_tbl := by decide +kernel
theorem pm_f13 : Cond.eq (.static "java/lang/String" "COMPACT_STRINGS" "Z") (.int 1) ∈ pm_fl ∧ Cond.isRef (.static "jdk/internal/util/Preconditions" "SIOOBE_FORMATTER" "Ljava/util/function/BiFunction;") ∈ pm_fl := by decide +kernel
theorem pm_f14 : ∀ e ∈ pm_nst, Cond.methodLinkNest e.1 e.2.1 e.2.2.1 e.2.2.2 ∈ lw_tbl := by decide +kernel
theorem pm_f15 : Cond.arrayOver (.object "HillHouses$Slope") ∈ lw_tbl := by decide +kernel
theorem pm_onT : ∀ e ∈ pm_nst, (Cond.methodLinkNest e.1 e.2.1 e.2.2.1 e.2.2.2).onTables = true := fun _ _ => rfl
theorem pm_env0 {s : State} {b L : Nat} {xs : Nat → Int32} (hts : ∀ w ∈ lw_tbl, w.before #[Value.ref b] s = true) (hX : va_X b L xs s s.heap) (hbl : b < s.heap.size) (hgv : (Jvm.Cond.and given_1 narrow_1).before #[Value.ref b] s = true) : ∃ (qv : Value) (ad : Nat → Nat), ad 1300 = b ∧ pm_Env (L, xs) qv ad (fun q => s.heap.size ≤ q) s s.heap := by
  have hf : ∀ w ∈ pm_fl, w.before #[Value.ref b] s = true := flat_of_before _ hgv
  have hA : ∀ a : Nat, a < s.heap.size → ¬ (fun q : Nat => s.heap.size ≤ q) a := fun a h => Nat.not_le.mpr h
  obtain ⟨adK, adV, hS, hR⟩ := vk_Sof (args := #[Value.ref b]) (tm := pm_st0) (N := 8) (len := pm_sb.map List.length) (byt := pm_sb) (A := fun q : Nat => s.heap.size ≤ q) (by decide) (fun i hi => hf _ (pm_f1 i hi)) (fun i hi => hf _ (pm_f2 i hi)) (fun i hi => hf _ (pm_f3 i hi)) (fun i hi => hf _ (pm_f4 i hi)) (fun i hi j hj => hf _ (pm_f5 i hi j hj)) (fun i j hi hj hij => (pm_f6 i hi j hj hij).imp (hf _) (hf _)) hA
  have hT : ∀ j : Nat, ∃ t : Nat, j < 3 → va_Z "HillHouses$Asker" (((pm_tb[j]?).getD ("", [])).1) "[I" (.ref t) (fun q : Nat => s.heap.size ≤ q) s s.heap ∧ va_T .int t ((pm_tb[j]?).getD ("", [])).2.length (fun i => .int (((pm_tb[j]?).getD ("", [])).2.getD i 0)) (fun q : Nat => s.heap.size ≤ q) s s.heap := by
    intro j
    by_cases hj : j < 3
    · obtain ⟨t, ht, hTt⟩ := va_Tof (f := fun i => .int (((pm_tb[j]?).getD ("", [])).2.getD i 0)) (A := fun q : Nat => s.heap.size ≤ q) (show ((pm_tb[j]?).getD ("", [])).2.length < 2 ^ 31 by rcases (show j = 0 ∨ j = 1 ∨ j = 2 by omega) with rfl | rfl | rfl <;> decide) (hf _ (pm_f8 j hj)) (va_eqt (hf _ (pm_f9 j hj))) (fun i hi => va_eqt (hf _ (pm_f10 j hj i hi))) hA
      exact ⟨t, fun _ => ⟨va_Zref (hts _ (pm_f11 j hj)) (hts _ pm_f12.1) ht hA, hTt⟩⟩
    · exact ⟨0, fun h => absurd h hj⟩
  obtain ⟨adT, hadT⟩ := Classical.axiomOfChoice hT
  have hq : ∃ qv : Value, (qv = .null ∨ ∃ t, qv = .ref t) ∧ va_Z "jdk/internal/util/Preconditions" "SIOOBE_FORMATTER" "Ljava/util/function/BiFunction;" qv (fun q : Nat => s.heap.size ≤ q) s s.heap := by
    rcases va_Zqof (A := fun q : Nat => s.heap.size ≤ q) (hts _ pm_f12.2.2.2.2) (hts _ pm_f12.2.2.1) (hf _ pm_f13.2) hA with h | ⟨t, h⟩
    · exact ⟨_, Or.inl rfl, h⟩
    · exact ⟨_, Or.inr ⟨t, rfl⟩, h⟩
  obtain ⟨qv, hqv, hZq⟩ := hq
  refine ⟨qv, fun k => if k = 1300 then b else if k < 1100 then adK (k - 1000) else if k < 1200 then adV (k - 1100) else adT (k - 1200), rfl, ?_, ?_, ?_, ?_, hqv, hZq, ?_, ?_, ?_, ?_⟩
  · have e8 : ∀ i, i < 8 → (if 1000 + i = 1300 then b else if 1000 + i < 1100 then adK (1000 + i - 1000) else if 1000 + i < 1200 then adV (1000 + i - 1100) else adT (1000 + i - 1200)) = adK i := fun i hi => by
      rw [if_neg (by omega), if_pos (by omega), show 1000 + i - 1000 = i by omega]
    have e9 : ∀ i, i < 8 → (if 1100 + i = 1300 then b else if 1100 + i < 1100 then adK (1100 + i - 1000) else if 1100 + i < 1200 then adV (1100 + i - 1100) else adT (1100 + i - 1200)) = adV i := fun i hi => by
      rw [if_neg (by omega), if_neg (by omega), if_pos (by omega), show 1100 + i - 1100 = i by omega]
    refine ⟨fun i hi => ?_, fun i j hi hj he => ?_⟩
    · have := hS.1 i hi
      simp only [e8 i hi, e9 i hi]
      exact this
    · simp only [e8 i hi, e8 j hj] at he
      exact hS.2 i j hi hj he
  · intro i t ht
    have hi : i < 8 := (List.getElem?_eq_some_iff.mp ht).1
    have h7 := pm_f7 i hi
    have hr := hR i hi
    unfold pm_st0 at hr
    rw [ht] at h7 hr
    show vk_R "HillHouses$Tape" t.1 t.2 (if 1000 + i = 1300 then b else if 1000 + i < 1100 then adK (1000 + i - 1000) else if 1000 + i < 1200 then adV (1000 + i - 1100) else adT (1000 + i - 1200)) s
    rw [if_neg (by omega), if_pos (by omega), show 1000 + i - 1000 = i by omega]
    exact vk_R.of (hts _ h7) hr
  · intro j t ht
    have hj : j < 3 := (List.getElem?_eq_some_iff.mp ht).1
    have := hadT j hj
    rw [ht] at this
    show va_Z "HillHouses$Asker" t.1 "[I" (.ref (if 1200 + j = 1300 then b else if 1200 + j < 1100 then adK (1200 + j - 1000) else if 1200 + j < 1200 then adV (1200 + j - 1100) else adT (1200 + j - 1200))) _ s s.heap ∧ va_T .int (if 1200 + j = 1300 then b else if 1200 + j < 1100 then adK (1200 + j - 1000) else if 1200 + j < 1200 then adV (1200 + j - 1100) else adT (1200 + j - 1200)) t.2.length _ _ s s.heap
    rw [if_neg (by omega), if_neg (by omega), if_neg (by omega), show 1200 + j - 1200 = j by omega]
    exact this
  · exact va_Zof (hts _ pm_f12.2.2.2.1) (hts _ pm_f12.2.1) (va_eqi (hf _ pm_f13.1)) hA
  · exact fun e he => va_Nw.of rfl (hts _ (pm_f14 e he))
  · exact hX
  · exact hA b hbl
  · exact va_AO.of (hts _ pm_f15)

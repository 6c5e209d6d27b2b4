/-! SOUNDNESS of the small machine: one instruction -/
def pm_Cx (X : pm_X) (qv : Value) (D : va_G) (A : Nat → Prop) (adI : Nat → Nat) (mi : Nat) (p : Program) (R : Room) (s : State) (m : MethodId) (args : Array Value) (meth : Method) (c : Code) : Prop :=
  p.tables.exec = Jvm.exec ∧ c.code = pm_mb mi ∧ c.maxLocals = pm_ml mi ∧ s.vm.findClass (pm_cn (pm_mc mi)) = some m.cls ∧ (∀ w ∈ pm_TB, w.before args s = true) ∧ (pm_mk mi = 2 → meth.name = "<init>") ∧ va_K D pm_cl [] s ∧ pm_Env X qv adI A s s.heap ∧ (∀ q, s.heap.size ≤ q → A q) ∧ 64 ≤ R.locals ∧ 1 ≤ R.frames
def pm_Go (qv : Value) (D : va_G) (A : Nat → Prop) (adI : Nat → Nat) (gI : pm_G) (mi : Nat) (p : Program) (l : Launch) (e : Env) (R : Room) (s : State) (m : MethodId) (args : Array Value) (below : List Frame) (meth : Method) (c : Code) (Q : State → Prop) (S : pm_S) : Prop :=
  ∀ (ad : Nat → Nat) (ca : Nat → ClassId) (L : List Nat) (H : Heap) (locs : List Loc) (cells slots : Nat) (ls : Array Slot), (∀ k, gI.1 k ≠ none ∨ 1000 ≤ k → ad k = adI k) → (∀ k, gI.1 k ≠ none → S.2.2.2.1.1 k ≠ none) → pm_Ls ad qv ls (pm_ml mi) S.2.1 → pm_Wd D A ad ca L S.2.2.2.1 S.2.2.2.2 s H → va_S A s.heap H locs →
    cells + gI.2.2.2.1 = S.2.2.2.1.2.2.2.1 → slots + gI.2.2.2.2 = S.2.2.2.1.2.2.2.2 → W p l e R s m args below meth c H locs cells slots Q (F0 m S.1 ls (S.2.2.1.map (pm_cv ad qv)))

section SND
variable {X : pm_X} {qv : Value} {D : va_G} {A : Nat → Prop} {adI : Nat → Nat} {gI : pm_G} {mi : Nat} {p : Program} {l : Launch} {e : Env} {R : Room} {s : State} {m : MethodId} {args : Array Value} {below : List Frame} {meth : Method} {c : Code} {Q : State → Prop} {S' : pm_S} {pc : Nat} {lo : List (Option Value)} {st : List Value} {g : pm_G} {iv : pm_V}

theorem pm_g_iconst (hC : pm_Cx X qv D A adI mi p R s m args meth c) {n : Int} (hd : decode (pm_mb mi) pc = .ok (.iconst n, 1)) (h : pm_psh pc lo st g iv 1 (.int (Int32.ofInt n)) = some (.inl S')) (k : pm_Go qv D A adI gI mi p l e R s m args below meth c Q S') : pm_Go qv D A adI gI mi p l e R s m args below meth c Q (pc, lo, st, g, iv) := by
  cases h
  intro ad ca L H locs cells slots ls hag hpe hls hW hS hc hs
  exact lv_iconst hC.1 hC.2.1 hd rfl (k ad ca L H locs cells slots ls hag hpe hls hW hS hc hs)
theorem pm_g_bipush (hC : pm_Cx X qv D A adI mi p R s m args meth c) {n : Int} (hd : decode (pm_mb mi) pc = .ok (.bipush n, 2)) (h : pm_psh pc lo st g iv 2 (.int (Int8.ofInt n).toInt32) = some (.inl S')) (k : pm_Go qv D A adI gI mi p l e R s m args below meth c Q S') : pm_Go qv D A adI gI mi p l e R s m args below meth c Q (pc, lo, st, g, iv) := by
  cases h
  intro ad ca L H locs cells slots ls hag hpe hls hW hS hc hs
  exact lv_bipush hC.1 hC.2.1 hd rfl (k ad ca L H locs cells slots ls hag hpe hls hW hS hc hs)
theorem pm_g_sipush (hC : pm_Cx X qv D A adI mi p R s m args meth c) {n : Int} (hd : decode (pm_mb mi) pc = .ok (.sipush n, 3)) (h : pm_psh pc lo st g iv 3 (.int (Int16.ofInt n).toInt32) = some (.inl S')) (k : pm_Go qv D A adI gI mi p l e R s m args below meth c Q S') : pm_Go qv D A adI gI mi p l e R s m args below meth c Q (pc, lo, st, g, iv) := by
  cases h
  intro ad ca L H locs cells slots ls hag hpe hls hW hS hc hs
  exact lv_sipush hC.1 hC.2.1 hd rfl (k ad ca L H locs cells slots ls hag hpe hls hW hS hc hs)
theorem pm_g_lconst (hC : pm_Cx X qv D A adI mi p R s m args meth c) {n : Fin 2} (hd : decode (pm_mb mi) pc = .ok (.lconst n, 1)) (h : pm_psh pc lo st g iv 1 (.long (Int64.ofNat (n : Nat))) = some (.inl S')) (k : pm_Go qv D A adI gI mi p l e R s m args below meth c Q S') : pm_Go qv D A adI gI mi p l e R s m args below meth c Q (pc, lo, st, g, iv) := by
  cases h
  intro ad ca L H locs cells slots ls hag hpe hls hW hS hc hs
  exact lv_lconst hC.1 hC.2.1 hd rfl (k ad ca L H locs cells slots ls hag hpe hls hW hS hc hs)
theorem pm_ldI_inv {n i : Nat} (h : pm_ldI pc lo st g iv n i = some (.inl S')) : ∃ x, lo[i]? = some (some (.int x)) ∧ S' = (pc + n, lo, .int x :: st, g, iv) := by
  unfold pm_ldI at h
  split at h
  · rename_i x hx
    cases h
    exact ⟨x, hx, rfl⟩
  · cases h
theorem pm_ldL_inv {n i : Nat} (h : pm_ldL pc lo st g iv n i = some (.inl S')) : ∃ x, lo[i]? = some (some (.long x)) ∧ S' = (pc + n, lo, .long x :: st, g, iv) := by
  unfold pm_ldL at h
  split at h
  · rename_i x hx
    cases h
    exact ⟨x, hx, rfl⟩
  · cases h

theorem pm_g_iload_n (hC : pm_Cx X qv D A adI mi p R s m args meth c) {i : Fin 4} (hd : decode (pm_mb mi) pc = .ok (.iload_n i, 1)) (h : pm_ldI pc lo st g iv 1 i = some (.inl S')) (k : pm_Go qv D A adI gI mi p l e R s m args below meth c Q S') : pm_Go qv D A adI gI mi p l e R s m args below meth c Q (pc, lo, st, g, iv) := by
  obtain ⟨x, hx, rfl⟩ := pm_ldI_inv h
  intro ad ca L H locs cells slots ls hag hpe hls hW hS hc hs
  exact lv_iload_n hC.1 hC.2.1 hd rfl (hls.2.2.2 _ _ hx) (k ad ca L H locs cells slots ls hag hpe hls hW hS hc hs)
theorem pm_g_iload (hC : pm_Cx X qv D A adI mi p R s m args meth c) {i : Nat} (hd : decode (pm_mb mi) pc = .ok (.iload i, 2)) (h : pm_ldI pc lo st g iv 2 i = some (.inl S')) (k : pm_Go qv D A adI gI mi p l e R s m args below meth c Q S') : pm_Go qv D A adI gI mi p l e R s m args below meth c Q (pc, lo, st, g, iv) := by
  obtain ⟨x, hx, rfl⟩ := pm_ldI_inv h
  intro ad ca L H locs cells slots ls hag hpe hls hW hS hc hs
  exact lv_iload hC.1 hC.2.1 hd (hls.2.2.2 _ _ hx) (k ad ca L H locs cells slots ls hag hpe hls hW hS hc hs)
theorem pm_g_lload_n (hC : pm_Cx X qv D A adI mi p R s m args meth c) {i : Fin 4} (hd : decode (pm_mb mi) pc = .ok (.lload_n i, 1)) (h : pm_ldL pc lo st g iv 1 i = some (.inl S')) (k : pm_Go qv D A adI gI mi p l e R s m args below meth c Q S') : pm_Go qv D A adI gI mi p l e R s m args below meth c Q (pc, lo, st, g, iv) := by
  obtain ⟨x, hx, rfl⟩ := pm_ldL_inv h
  intro ad ca L H locs cells slots ls hag hpe hls hW hS hc hs
  exact lv_lload_n hC.1 hC.2.1 hd rfl (hls.2.2.2 _ _ hx) (k ad ca L H locs cells slots ls hag hpe hls hW hS hc hs)
theorem pm_g_lload (hC : pm_Cx X qv D A adI mi p R s m args meth c) {i : Nat} (hd : decode (pm_mb mi) pc = .ok (.lload i, 2)) (h : pm_ldL pc lo st g iv 2 i = some (.inl S')) (k : pm_Go qv D A adI gI mi p l e R s m args below meth c Q S') : pm_Go qv D A adI gI mi p l e R s m args below meth c Q (pc, lo, st, g, iv) := by
  obtain ⟨x, hx, rfl⟩ := pm_ldL_inv h
  intro ad ca L H locs cells slots ls hag hpe hls hW hS hc hs
  exact lv_lload hC.1 hC.2.1 hd (hls.2.2.2 _ _ hx) (k ad ca L H locs cells slots ls hag hpe hls hW hS hc hs)
theorem pm_g_aload_n (hC : pm_Cx X qv D A adI mi p R s m args meth c) {i : Fin 4} (hd : decode (pm_mb mi) pc = .ok (.aload_n i, 1)) (h : pm_ldA pc lo st g iv 1 i = some (.inl S')) (k : pm_Go qv D A adI gI mi p l e R s m args below meth c Q S') : pm_Go qv D A adI gI mi p l e R s m args below meth c Q (pc, lo, st, g, iv) := by
  unfold pm_ldA at h
  split at h
  · rename_i x hx
    cases h
    intro ad ca L H locs cells slots ls hag hpe hls hW hS hc hs
    exact lv_aload_n hC.1 hC.2.1 hd rfl (hls.2.2.2 _ _ hx) (k ad ca L H locs cells slots ls hag hpe hls hW hS hc hs)
  · rename_i hx
    cases h
    intro ad ca L H locs cells slots ls hag hpe hls hW hS hc hs
    exact lv_aload_nN hC.1 hC.2.1 hd rfl (hls.2.2.2 _ _ hx) (k ad ca L H locs cells slots ls hag hpe hls hW hS hc hs)
  · rename_i x hx
    cases h
    intro ad ca L H locs cells slots ls hag hpe hls hW hS hc hs
    have h2 := hls.2.2.2 _ _ hx
    have kk := k ad ca L H locs cells slots ls hag hpe hls hW hS hc hs
    rcases hC.2.2.2.2.2.2.2.1.2.2.2.2.1 with rfl | ⟨t, rfl⟩
    · exact lv_aload_nN hC.1 hC.2.1 hd rfl h2 kk
    · exact lv_aload_n hC.1 hC.2.1 hd rfl h2 kk
  · cases h
theorem pm_stI_inv {n i : Nat} (h : pm_stI pc lo st g iv n i = some (.inl S')) : ∃ x r lo', st = .int x :: r ∧ pm_s1 lo i (.int x) = some lo' ∧ S' = (pc + n, lo', r, g, iv) := by
  unfold pm_stI at h
  split at h
  · split at h
    · rename_i hl
      cases h
      exact ⟨_, _, _, rfl, hl, rfl⟩
    · cases h
  · cases h
theorem pm_stL_inv {n i : Nat} (h : pm_stL pc lo st g iv n i = some (.inl S')) : ∃ x r lo', st = .long x :: r ∧ pm_s2 lo i (.long x) = some lo' ∧ S' = (pc + n, lo', r, g, iv) := by
  unfold pm_stL at h
  split at h
  · split at h
    · rename_i hl
      cases h
      exact ⟨_, _, _, rfl, hl, rfl⟩
    · cases h
  · cases h
theorem pm_s1_lt {i : Nat} {v : Value} {lo' : List (Option Value)} (h : pm_s1 lo i v = some lo') : i < lo.length := by
  unfold pm_s1 at h
  split at h
  · rename_i q; exact q.1
  · cases h
theorem pm_s2_lt {i : Nat} {v : Value} {lo' : List (Option Value)} (h : pm_s2 lo i v = some lo') : i + 1 < lo.length := by
  unfold pm_s2 at h
  split at h
  · rename_i q; exact q.1
  · cases h

theorem pm_g_istore_n (hC : pm_Cx X qv D A adI mi p R s m args meth c) {i : Fin 4} (hd : decode (pm_mb mi) pc = .ok (.istore_n i, 1)) (h : pm_stI pc lo st g iv 1 i = some (.inl S')) (k : pm_Go qv D A adI gI mi p l e R s m args below meth c Q S') : pm_Go qv D A adI gI mi p l e R s m args below meth c Q (pc, lo, st, g, iv) := by
  obtain ⟨x, r, lo1, rfl, hl, rfl⟩ := pm_stI_inv h
  intro ad ca L H locs cells slots ls hag hpe hls hW hS hc hs
  exact lv_istore_n hC.1 hC.2.1 hd rfl (pm_al_has hls) (by rw [← hls.2.1]; exact pm_s1_lt hl) rfl (fun ls1 h1 => k ad ca L H locs cells slots ls1 hag hpe (pm_al_s1 hC.2.2.2.2.2.2.2.1.2.2.2.2.1 hls.2.1 h1 hl) hW hS hc hs)
theorem pm_g_istore (hC : pm_Cx X qv D A adI mi p R s m args meth c) {i : Nat} (hd : decode (pm_mb mi) pc = .ok (.istore i, 2)) (h : pm_stI pc lo st g iv 2 i = some (.inl S')) (k : pm_Go qv D A adI gI mi p l e R s m args below meth c Q S') : pm_Go qv D A adI gI mi p l e R s m args below meth c Q (pc, lo, st, g, iv) := by
  obtain ⟨x, r, lo1, rfl, hl, rfl⟩ := pm_stI_inv h
  intro ad ca L H locs cells slots ls hag hpe hls hW hS hc hs
  exact lv_istore hC.1 hC.2.1 hd (pm_al_has hls) (by rw [← hls.2.1]; exact pm_s1_lt hl) rfl (fun ls1 h1 => k ad ca L H locs cells slots ls1 hag hpe (pm_al_s1 hC.2.2.2.2.2.2.2.1.2.2.2.2.1 hls.2.1 h1 hl) hW hS hc hs)
theorem pm_g_lstore_n (hC : pm_Cx X qv D A adI mi p R s m args meth c) {i : Fin 4} (hd : decode (pm_mb mi) pc = .ok (.lstore_n i, 1)) (h : pm_stL pc lo st g iv 1 i = some (.inl S')) (k : pm_Go qv D A adI gI mi p l e R s m args below meth c Q S') : pm_Go qv D A adI gI mi p l e R s m args below meth c Q (pc, lo, st, g, iv) := by
  obtain ⟨x, r, lo1, rfl, hl, rfl⟩ := pm_stL_inv h
  intro ad ca L H locs cells slots ls hag hpe hls hW hS hc hs
  exact lv_lstore_n hC.1 hC.2.1 hd rfl (pm_al_has hls) (by rw [← hls.2.1]; exact pm_s2_lt hl) rfl (fun ls1 h1 => k ad ca L H locs cells slots ls1 hag hpe (pm_al_s2 hC.2.2.2.2.2.2.2.1.2.2.2.2.1 hls.2.1 h1 hl) hW hS hc hs)
theorem pm_g_astore_n (hC : pm_Cx X qv D A adI mi p R s m args meth c) {i : Fin 4} (hd : decode (pm_mb mi) pc = .ok (.astore_n i, 1)) (h : pm_stA pc lo st g iv 1 i = some (.inl S')) (k : pm_Go qv D A adI gI mi p l e R s m args below meth c Q S') : pm_Go qv D A adI gI mi p l e R s m args below meth c Q (pc, lo, st, g, iv) := by
  unfold pm_stA at h
  split at h
  · split at h
    · rename_i hl
      cases h
      intro ad ca L H locs cells slots ls hag hpe hls hW hS hc hs
      exact lv_astore_n hC.1 hC.2.1 hd rfl (pm_al_has hls) (by rw [← hls.2.1]; exact pm_s1_lt hl) rfl (fun ls1 h1 => k ad ca L H locs cells slots ls1 hag hpe (pm_al_s1 hC.2.2.2.2.2.2.2.1.2.2.2.2.1 hls.2.1 h1 hl) hW hS hc hs)
    · cases h
  · split at h
    · rename_i hl
      cases h
      intro ad ca L H locs cells slots ls hag hpe hls hW hS hc hs
      exact lv_astore_nN hC.1 hC.2.1 hd rfl (pm_al_has hls) (by rw [← hls.2.1]; exact pm_s1_lt hl) rfl (fun ls1 h1 => k ad ca L H locs cells slots ls1 hag hpe (pm_al_s1 hC.2.2.2.2.2.2.2.1.2.2.2.2.1 hls.2.1 h1 hl) hW hS hc hs)
    · cases h
  · cases h
theorem pm_g_iinc (hC : pm_Cx X qv D A adI mi p R s m args meth c) {i : Nat} {n : Int} (hd : decode (pm_mb mi) pc = .ok (.iinc i n, 3)) (h : pm_inc pc lo st g iv i n = some (.inl S')) (k : pm_Go qv D A adI gI mi p l e R s m args below meth c Q S') : pm_Go qv D A adI gI mi p l e R s m args below meth c Q (pc, lo, st, g, iv) := by
  unfold pm_inc at h
  split at h
  · rename_i x hx
    split at h
    · rename_i lo1 hl
      cases h
      intro ad ca L H locs cells slots ls hag hpe hls hW hS hc hs
      obtain ⟨j, hj⟩ := List.getElem?_of_mem (pm_al_mem (f := pm_cv ad qv).mpr ⟨.int x, hx, rfl⟩)
      exact lv_iinc hC.1 hC.2.1 hd (pm_al_has hls) hj rfl (by rw [← hls.2.1]; exact pm_s1_lt hl) rfl (fun ls1 h1 => k ad ca L H locs cells slots ls1 hag hpe (pm_al_s1 hC.2.2.2.2.2.2.2.1.2.2.2.2.1 hls.2.1 h1 hl) hW hS hc hs)
    · cases h
  · cases h
theorem pm_i1_inv {f : Int32 → Int32} (h : pm_i1 pc lo st g iv f = some (.inl S')) : ∃ x r, st = .int x :: r ∧ S' = (pc + 1, lo, .int (f x) :: r, g, iv) := by
  unfold pm_i1 at h
  split at h
  · cases h
    exact ⟨_, _, rfl, rfl⟩
  · cases h
theorem pm_i2_inv {f : Int32 → Int32 → Int32} (h : pm_i2 pc lo st g iv f = some (.inl S')) : ∃ x y r, st = .int y :: .int x :: r ∧ S' = (pc + 1, lo, .int (f x y) :: r, g, iv) := by
  unfold pm_i2 at h
  split at h
  · cases h
    exact ⟨_, _, _, rfl, rfl⟩
  · cases h
theorem pm_l2_inv {f : Int64 → Int64 → Int64} (h : pm_l2 pc lo st g iv f = some (.inl S')) : ∃ x y r, st = .long y :: .long x :: r ∧ S' = (pc + 1, lo, .long (f x y) :: r, g, iv) := by
  unfold pm_l2 at h
  split at h
  · cases h
    exact ⟨_, _, _, rfl, rfl⟩
  · cases h
theorem pm_ls2_inv {f : Int64 → Int32 → Int64} (h : pm_ls2 pc lo st g iv f = some (.inl S')) : ∃ x y r, st = .int y :: .long x :: r ∧ S' = (pc + 1, lo, .long (f x y) :: r, g, iv) := by
  unfold pm_ls2 at h
  split at h
  · cases h
    exact ⟨_, _, _, rfl, rfl⟩
  · cases h
theorem pm_il_inv {f : Int32 → Int64} (h : pm_il pc lo st g iv f = some (.inl S')) : ∃ x r, st = .int x :: r ∧ S' = (pc + 1, lo, .long (f x) :: r, g, iv) := by
  unfold pm_il at h
  split at h
  · cases h
    exact ⟨_, _, rfl, rfl⟩
  · cases h
theorem pm_li_inv {f : Int64 → Int32} (h : pm_li pc lo st g iv f = some (.inl S')) : ∃ x r, st = .long x :: r ∧ S' = (pc + 1, lo, .int (f x) :: r, g, iv) := by
  unfold pm_li at h
  split at h
  · cases h
    exact ⟨_, _, rfl, rfl⟩
  · cases h
theorem pm_d2_inv {f : Int32 → Int32 → Int32} (h : pm_d2 pc lo st g iv f = some (.inl S')) : ∃ x y r, st = .int y :: .int x :: r ∧ ¬ y = 0 ∧ S' = (pc + 1, lo, .int (f x y) :: r, g, iv) := by
  unfold pm_d2 at h
  split at h
  · unfold pm_ifn at h
    split at h
    · rename_i hy
      cases h
      exact ⟨_, _, _, rfl, hy, rfl⟩
    · cases h
  · cases h
theorem pm_g_iadd (hC : pm_Cx X qv D A adI mi p R s m args meth c) (hd : decode (pm_mb mi) pc = .ok (.iadd, 1)) (h : pm_i2 pc lo st g iv (fun x y => x + y) = some (.inl S')) (k : pm_Go qv D A adI gI mi p l e R s m args below meth c Q S') : pm_Go qv D A adI gI mi p l e R s m args below meth c Q (pc, lo, st, g, iv) := by
  obtain ⟨x, y, r, rfl, rfl⟩ := pm_i2_inv h
  intro ad ca L H locs cells slots ls hag hpe hls hW hS hc hs
  exact lv_iadd hC.1 hC.2.1 hd (k ad ca L H locs cells slots ls hag hpe hls hW hS hc hs)
theorem pm_g_isub (hC : pm_Cx X qv D A adI mi p R s m args meth c) (hd : decode (pm_mb mi) pc = .ok (.isub, 1)) (h : pm_i2 pc lo st g iv (fun x y => x - y) = some (.inl S')) (k : pm_Go qv D A adI gI mi p l e R s m args below meth c Q S') : pm_Go qv D A adI gI mi p l e R s m args below meth c Q (pc, lo, st, g, iv) := by
  obtain ⟨x, y, r, rfl, rfl⟩ := pm_i2_inv h
  intro ad ca L H locs cells slots ls hag hpe hls hW hS hc hs
  exact lv_isub hC.1 hC.2.1 hd (k ad ca L H locs cells slots ls hag hpe hls hW hS hc hs)
theorem pm_g_imul (hC : pm_Cx X qv D A adI mi p R s m args meth c) (hd : decode (pm_mb mi) pc = .ok (.imul, 1)) (h : pm_i2 pc lo st g iv (fun x y => x * y) = some (.inl S')) (k : pm_Go qv D A adI gI mi p l e R s m args below meth c Q S') : pm_Go qv D A adI gI mi p l e R s m args below meth c Q (pc, lo, st, g, iv) := by
  obtain ⟨x, y, r, rfl, rfl⟩ := pm_i2_inv h
  intro ad ca L H locs cells slots ls hag hpe hls hW hS hc hs
  exact lv_imul hC.1 hC.2.1 hd (k ad ca L H locs cells slots ls hag hpe hls hW hS hc hs)
theorem pm_g_iand (hC : pm_Cx X qv D A adI mi p R s m args meth c) (hd : decode (pm_mb mi) pc = .ok (.iand, 1)) (h : pm_i2 pc lo st g iv (fun x y => x &&& y) = some (.inl S')) (k : pm_Go qv D A adI gI mi p l e R s m args below meth c Q S') : pm_Go qv D A adI gI mi p l e R s m args below meth c Q (pc, lo, st, g, iv) := by
  obtain ⟨x, y, r, rfl, rfl⟩ := pm_i2_inv h
  intro ad ca L H locs cells slots ls hag hpe hls hW hS hc hs
  exact lv_iand hC.1 hC.2.1 hd (k ad ca L H locs cells slots ls hag hpe hls hW hS hc hs)
theorem pm_g_ior (hC : pm_Cx X qv D A adI mi p R s m args meth c) (hd : decode (pm_mb mi) pc = .ok (.ior, 1)) (h : pm_i2 pc lo st g iv (fun x y => x ||| y) = some (.inl S')) (k : pm_Go qv D A adI gI mi p l e R s m args below meth c Q S') : pm_Go qv D A adI gI mi p l e R s m args below meth c Q (pc, lo, st, g, iv) := by
  obtain ⟨x, y, r, rfl, rfl⟩ := pm_i2_inv h
  intro ad ca L H locs cells slots ls hag hpe hls hW hS hc hs
  exact lv_ior hC.1 hC.2.1 hd (k ad ca L H locs cells slots ls hag hpe hls hW hS hc hs)
theorem pm_g_ixor (hC : pm_Cx X qv D A adI mi p R s m args meth c) (hd : decode (pm_mb mi) pc = .ok (.ixor, 1)) (h : pm_i2 pc lo st g iv (fun x y => x ^^^ y) = some (.inl S')) (k : pm_Go qv D A adI gI mi p l e R s m args below meth c Q S') : pm_Go qv D A adI gI mi p l e R s m args below meth c Q (pc, lo, st, g, iv) := by
  obtain ⟨x, y, r, rfl, rfl⟩ := pm_i2_inv h
  intro ad ca L H locs cells slots ls hag hpe hls hW hS hc hs
  exact lv_ixor hC.1 hC.2.1 hd (k ad ca L H locs cells slots ls hag hpe hls hW hS hc hs)
theorem pm_g_ishl (hC : pm_Cx X qv D A adI mi p R s m args meth c) (hd : decode (pm_mb mi) pc = .ok (.ishl, 1)) (h : pm_i2 pc lo st g iv (fun x y => x <<< (y &&& 31)) = some (.inl S')) (k : pm_Go qv D A adI gI mi p l e R s m args below meth c Q S') : pm_Go qv D A adI gI mi p l e R s m args below meth c Q (pc, lo, st, g, iv) := by
  obtain ⟨x, y, r, rfl, rfl⟩ := pm_i2_inv h
  intro ad ca L H locs cells slots ls hag hpe hls hW hS hc hs
  exact lv_ishl hC.1 hC.2.1 hd (k ad ca L H locs cells slots ls hag hpe hls hW hS hc hs)
theorem pm_g_ishr (hC : pm_Cx X qv D A adI mi p R s m args meth c) (hd : decode (pm_mb mi) pc = .ok (.ishr, 1)) (h : pm_i2 pc lo st g iv (fun x y => x >>> (y &&& 31)) = some (.inl S')) (k : pm_Go qv D A adI gI mi p l e R s m args below meth c Q S') : pm_Go qv D A adI gI mi p l e R s m args below meth c Q (pc, lo, st, g, iv) := by
  obtain ⟨x, y, r, rfl, rfl⟩ := pm_i2_inv h
  intro ad ca L H locs cells slots ls hag hpe hls hW hS hc hs
  exact lv_ishr hC.1 hC.2.1 hd (k ad ca L H locs cells slots ls hag hpe hls hW hS hc hs)
theorem pm_g_iushr (hC : pm_Cx X qv D A adI mi p R s m args meth c) (hd : decode (pm_mb mi) pc = .ok (.iushr, 1)) (h : pm_i2 pc lo st g iv (fun x y => (x.toUInt32 >>> (y.toUInt32 &&& Int32.toUInt32 31)).toInt32) = some (.inl S')) (k : pm_Go qv D A adI gI mi p l e R s m args below meth c Q S') : pm_Go qv D A adI gI mi p l e R s m args below meth c Q (pc, lo, st, g, iv) := by
  obtain ⟨x, y, r, rfl, rfl⟩ := pm_i2_inv h
  intro ad ca L H locs cells slots ls hag hpe hls hW hS hc hs
  exact lv_iushr hC.1 hC.2.1 hd rfl (k ad ca L H locs cells slots ls hag hpe hls hW hS hc hs)
theorem pm_g_idiv (hC : pm_Cx X qv D A adI mi p R s m args meth c) (hd : decode (pm_mb mi) pc = .ok (.idiv, 1)) (h : pm_d2 pc lo st g iv (fun x y => x / y) = some (.inl S')) (k : pm_Go qv D A adI gI mi p l e R s m args below meth c Q S') : pm_Go qv D A adI gI mi p l e R s m args below meth c Q (pc, lo, st, g, iv) := by
  obtain ⟨x, y, r, rfl, hy, rfl⟩ := pm_d2_inv h
  intro ad ca L H locs cells slots ls hag hpe hls hW hS hc hs
  exact lv_idiv hC.1 hC.2.1 hd hy (k ad ca L H locs cells slots ls hag hpe hls hW hS hc hs)
theorem pm_g_irem (hC : pm_Cx X qv D A adI mi p R s m args meth c) (hd : decode (pm_mb mi) pc = .ok (.irem, 1)) (h : pm_d2 pc lo st g iv (fun x y => x - x / y * y) = some (.inl S')) (k : pm_Go qv D A adI gI mi p l e R s m args below meth c Q S') : pm_Go qv D A adI gI mi p l e R s m args below meth c Q (pc, lo, st, g, iv) := by
  obtain ⟨x, y, r, rfl, hy, rfl⟩ := pm_d2_inv h
  intro ad ca L H locs cells slots ls hag hpe hls hW hS hc hs
  exact lv_irem hC.1 hC.2.1 hd hy (k ad ca L H locs cells slots ls hag hpe hls hW hS hc hs)
theorem pm_g_ineg (hC : pm_Cx X qv D A adI mi p R s m args meth c) (hd : decode (pm_mb mi) pc = .ok (.ineg, 1)) (h : pm_i1 pc lo st g iv (fun x => -x) = some (.inl S')) (k : pm_Go qv D A adI gI mi p l e R s m args below meth c Q S') : pm_Go qv D A adI gI mi p l e R s m args below meth c Q (pc, lo, st, g, iv) := by
  obtain ⟨x, r, rfl, rfl⟩ := pm_i1_inv h
  intro ad ca L H locs cells slots ls hag hpe hls hW hS hc hs
  exact lv_ineg hC.1 hC.2.1 hd (k ad ca L H locs cells slots ls hag hpe hls hW hS hc hs)
theorem pm_g_i2b (hC : pm_Cx X qv D A adI mi p R s m args meth c) (hd : decode (pm_mb mi) pc = .ok (.i2b, 1)) (h : pm_i1 pc lo st g iv (fun x => x.toInt8.toInt32) = some (.inl S')) (k : pm_Go qv D A adI gI mi p l e R s m args below meth c Q S') : pm_Go qv D A adI gI mi p l e R s m args below meth c Q (pc, lo, st, g, iv) := by
  obtain ⟨x, r, rfl, rfl⟩ := pm_i1_inv h
  intro ad ca L H locs cells slots ls hag hpe hls hW hS hc hs
  exact lv_i2b hC.1 hC.2.1 hd rfl (k ad ca L H locs cells slots ls hag hpe hls hW hS hc hs)
theorem pm_g_i2s (hC : pm_Cx X qv D A adI mi p R s m args meth c) (hd : decode (pm_mb mi) pc = .ok (.i2s, 1)) (h : pm_i1 pc lo st g iv (fun x => x.toInt16.toInt32) = some (.inl S')) (k : pm_Go qv D A adI gI mi p l e R s m args below meth c Q S') : pm_Go qv D A adI gI mi p l e R s m args below meth c Q (pc, lo, st, g, iv) := by
  obtain ⟨x, r, rfl, rfl⟩ := pm_i1_inv h
  intro ad ca L H locs cells slots ls hag hpe hls hW hS hc hs
  exact lv_i2s hC.1 hC.2.1 hd rfl (k ad ca L H locs cells slots ls hag hpe hls hW hS hc hs)
theorem pm_g_i2c (hC : pm_Cx X qv D A adI mi p R s m args meth c) (hd : decode (pm_mb mi) pc = .ok (.i2c, 1)) (h : pm_i1 pc lo st g iv (fun x => (x.toUInt32 % 65536).toInt32) = some (.inl S')) (k : pm_Go qv D A adI gI mi p l e R s m args below meth c Q S') : pm_Go qv D A adI gI mi p l e R s m args below meth c Q (pc, lo, st, g, iv) := by
  obtain ⟨x, r, rfl, rfl⟩ := pm_i1_inv h
  intro ad ca L H locs cells slots ls hag hpe hls hW hS hc hs
  exact lv_i2c hC.1 hC.2.1 hd rfl (k ad ca L H locs cells slots ls hag hpe hls hW hS hc hs)
theorem pm_g_i2l (hC : pm_Cx X qv D A adI mi p R s m args meth c) (hd : decode (pm_mb mi) pc = .ok (.i2l, 1)) (h : pm_il pc lo st g iv (fun x => x.toInt64) = some (.inl S')) (k : pm_Go qv D A adI gI mi p l e R s m args below meth c Q S') : pm_Go qv D A adI gI mi p l e R s m args below meth c Q (pc, lo, st, g, iv) := by
  obtain ⟨x, r, rfl, rfl⟩ := pm_il_inv h
  intro ad ca L H locs cells slots ls hag hpe hls hW hS hc hs
  exact lv_i2l hC.1 hC.2.1 hd rfl (k ad ca L H locs cells slots ls hag hpe hls hW hS hc hs)
theorem pm_g_l2i (hC : pm_Cx X qv D A adI mi p R s m args meth c) (hd : decode (pm_mb mi) pc = .ok (.l2i, 1)) (h : pm_li pc lo st g iv (fun x => x.toInt32) = some (.inl S')) (k : pm_Go qv D A adI gI mi p l e R s m args below meth c Q S') : pm_Go qv D A adI gI mi p l e R s m args below meth c Q (pc, lo, st, g, iv) := by
  obtain ⟨x, r, rfl, rfl⟩ := pm_li_inv h
  intro ad ca L H locs cells slots ls hag hpe hls hW hS hc hs
  exact lv_l2i hC.1 hC.2.1 hd rfl (k ad ca L H locs cells slots ls hag hpe hls hW hS hc hs)
theorem pm_g_ladd (hC : pm_Cx X qv D A adI mi p R s m args meth c) (hd : decode (pm_mb mi) pc = .ok (.ladd, 1)) (h : pm_l2 pc lo st g iv (fun x y => x + y) = some (.inl S')) (k : pm_Go qv D A adI gI mi p l e R s m args below meth c Q S') : pm_Go qv D A adI gI mi p l e R s m args below meth c Q (pc, lo, st, g, iv) := by
  obtain ⟨x, y, r, rfl, rfl⟩ := pm_l2_inv h
  intro ad ca L H locs cells slots ls hag hpe hls hW hS hc hs
  exact lv_ladd hC.1 hC.2.1 hd (k ad ca L H locs cells slots ls hag hpe hls hW hS hc hs)
theorem pm_g_land (hC : pm_Cx X qv D A adI mi p R s m args meth c) (hd : decode (pm_mb mi) pc = .ok (.land, 1)) (h : pm_l2 pc lo st g iv (fun x y => x &&& y) = some (.inl S')) (k : pm_Go qv D A adI gI mi p l e R s m args below meth c Q S') : pm_Go qv D A adI gI mi p l e R s m args below meth c Q (pc, lo, st, g, iv) := by
  obtain ⟨x, y, r, rfl, rfl⟩ := pm_l2_inv h
  intro ad ca L H locs cells slots ls hag hpe hls hW hS hc hs
  exact lv_land hC.1 hC.2.1 hd (k ad ca L H locs cells slots ls hag hpe hls hW hS hc hs)
theorem pm_g_lor (hC : pm_Cx X qv D A adI mi p R s m args meth c) (hd : decode (pm_mb mi) pc = .ok (.lor, 1)) (h : pm_l2 pc lo st g iv (fun x y => x ||| y) = some (.inl S')) (k : pm_Go qv D A adI gI mi p l e R s m args below meth c Q S') : pm_Go qv D A adI gI mi p l e R s m args below meth c Q (pc, lo, st, g, iv) := by
  obtain ⟨x, y, r, rfl, rfl⟩ := pm_l2_inv h
  intro ad ca L H locs cells slots ls hag hpe hls hW hS hc hs
  exact lv_lor hC.1 hC.2.1 hd (k ad ca L H locs cells slots ls hag hpe hls hW hS hc hs)
theorem pm_g_lshl (hC : pm_Cx X qv D A adI mi p R s m args meth c) (hd : decode (pm_mb mi) pc = .ok (.lshl, 1)) (h : pm_ls2 pc lo st g iv (fun x y => x <<< (y.toInt64 &&& 63)) = some (.inl S')) (k : pm_Go qv D A adI gI mi p l e R s m args below meth c Q S') : pm_Go qv D A adI gI mi p l e R s m args below meth c Q (pc, lo, st, g, iv) := by
  obtain ⟨x, y, r, rfl, rfl⟩ := pm_ls2_inv h
  intro ad ca L H locs cells slots ls hag hpe hls hW hS hc hs
  exact lv_lshl hC.1 hC.2.1 hd rfl (k ad ca L H locs cells slots ls hag hpe hls hW hS hc hs)
theorem pm_g_lshr (hC : pm_Cx X qv D A adI mi p R s m args meth c) (hd : decode (pm_mb mi) pc = .ok (.lshr, 1)) (h : pm_ls2 pc lo st g iv (fun x y => x >>> (y.toInt64 &&& 63)) = some (.inl S')) (k : pm_Go qv D A adI gI mi p l e R s m args below meth c Q S') : pm_Go qv D A adI gI mi p l e R s m args below meth c Q (pc, lo, st, g, iv) := by
  obtain ⟨x, y, r, rfl, rfl⟩ := pm_ls2_inv h
  intro ad ca L H locs cells slots ls hag hpe hls hW hS hc hs
  exact lv_lshr hC.1 hC.2.1 hd rfl (k ad ca L H locs cells slots ls hag hpe hls hW hS hc hs)
theorem pm_g_lcmp (hC : pm_Cx X qv D A adI mi p R s m args meth c) (hd : decode (pm_mb mi) pc = .ok (.lcmp, 1)) (h : pm_lc pc lo st g iv = some (.inl S')) (k : pm_Go qv D A adI gI mi p l e R s m args below meth c Q S') : pm_Go qv D A adI gI mi p l e R s m args below meth c Q (pc, lo, st, g, iv) := by
  unfold pm_lc at h
  split at h
  · cases h
    intro ad ca L H locs cells slots ls hag hpe hls hW hS hc hs
    exact W.lcmp hC.1 hC.2.1 hd (k ad ca L H locs cells slots ls hag hpe hls hW hS hc hs)
  · cases h
theorem pm_ifn_inv {c : Prop} [Decidable c] {x : pm_O} {y : pm_S ⊕ pm_R} (h : pm_ifn c x = some y) : c ∧ x = some y := by
  unfold pm_ifn at h
  split at h
  · rename_i q; exact ⟨q, h⟩
  · cases h
theorem pm_cat (v : Value) (hq : qv = .null ∨ ∃ t, qv = .ref t) {ad : Nat → Nat} (h : v.category = 1) : (pm_cv ad qv v).category = 1 := by rw [pm_cv_cat hq]; exact h

theorem pm_g_dup (hC : pm_Cx X qv D A adI mi p R s m args meth c) (hd : decode (pm_mb mi) pc = .ok (.dup, 1)) (h : pm_dup pc lo st g iv = some (.inl S')) (k : pm_Go qv D A adI gI mi p l e R s m args below meth c Q S') : pm_Go qv D A adI gI mi p l e R s m args below meth c Q (pc, lo, st, g, iv) := by
  unfold pm_dup at h
  split at h
  · obtain ⟨h1, h2⟩ := pm_ifn_inv h
    cases h2
    intro ad ca L H locs cells slots ls hag hpe hls hW hS hc hs
    exact lv_dup hC.1 hC.2.1 hd (pm_cat _ hC.2.2.2.2.2.2.2.1.2.2.2.2.1 h1) (k ad ca L H locs cells slots ls hag hpe hls hW hS hc hs)
  · cases h
theorem pm_g_dup2 (hC : pm_Cx X qv D A adI mi p R s m args meth c) (hd : decode (pm_mb mi) pc = .ok (.dup2, 1)) (h : pm_dp2 pc lo st g iv = some (.inl S')) (k : pm_Go qv D A adI gI mi p l e R s m args below meth c Q S') : pm_Go qv D A adI gI mi p l e R s m args below meth c Q (pc, lo, st, g, iv) := by
  unfold pm_dp2 at h
  split at h
  · obtain ⟨h1, h2⟩ := pm_ifn_inv h
    cases h2
    intro ad ca L H locs cells slots ls hag hpe hls hW hS hc hs
    exact lv_dup2_11 hC.1 hC.2.1 hd (pm_cat _ hC.2.2.2.2.2.2.2.1.2.2.2.2.1 h1.1) (pm_cat _ hC.2.2.2.2.2.2.2.1.2.2.2.2.1 h1.2) (k ad ca L H locs cells slots ls hag hpe hls hW hS hc hs)
  · cases h
theorem pm_g_pop (hC : pm_Cx X qv D A adI mi p R s m args meth c) (hd : decode (pm_mb mi) pc = .ok (.pop, 1)) (h : pm_pop pc lo st g iv = some (.inl S')) (k : pm_Go qv D A adI gI mi p l e R s m args below meth c Q S') : pm_Go qv D A adI gI mi p l e R s m args below meth c Q (pc, lo, st, g, iv) := by
  unfold pm_pop at h
  split at h
  · obtain ⟨h1, h2⟩ := pm_ifn_inv h
    cases h2
    intro ad ca L H locs cells slots ls hag hpe hls hW hS hc hs
    exact lv_pop hC.1 hC.2.1 hd (pm_cat _ hC.2.2.2.2.2.2.2.1.2.2.2.2.1 h1) (k ad ca L H locs cells slots ls hag hpe hls hW hS hc hs)
  · cases h
theorem pm_jmp_inv {off : Int} {r : List Value} (h : pm_jmp pc lo g iv off r = some (.inl S')) : ∃ t : Nat, (pc : Int) + off = (t : Int) ∧ S' = (t, lo, r, g, iv) := by
  obtain ⟨h1, h2⟩ := pm_ifn_inv h
  cases h2
  exact ⟨((pc : Int) + off).toNat, (Int.toNat_of_nonneg h1).symm, rfl⟩
theorem pm_g_goto (hC : pm_Cx X qv D A adI mi p R s m args meth c) {off : Int} (hd : decode (pm_mb mi) pc = .ok (.goto off, 3)) (h : pm_jmp pc lo g iv off st = some (.inl S')) (k : pm_Go qv D A adI gI mi p l e R s m args below meth c Q S') : pm_Go qv D A adI gI mi p l e R s m args below meth c Q (pc, lo, st, g, iv) := by
  obtain ⟨t, ht, rfl⟩ := pm_jmp_inv h
  intro ad ca L H locs cells slots ls hag hpe hls hW hS hc hs
  exact lv_goto hC.1 hC.2.1 hd ht (k ad ca L H locs cells slots ls hag hpe hls hW hS hc hs)
theorem pm_g_if_eq (hC : pm_Cx X qv D A adI mi p R s m args meth c) {off : Int} (hd : decode (pm_mb mi) pc = .ok (.ifCond .eq off, 3)) (h : pm_br1 pc lo st g iv (pm_cd1 .eq) off = some (.inl S')) (k : pm_Go qv D A adI gI mi p l e R s m args below meth c Q S') : pm_Go qv D A adI gI mi p l e R s m args below meth c Q (pc, lo, st, g, iv) := by
  unfold pm_br1 at h
  split at h
  · obtain ⟨hj, h⟩ := pm_ifn_inv h
    split at h
    · rename_i hcd
      cases h
      intro ad ca L H locs cells slots ls hag hpe hls hW hS hc hs
      exact lv_if_eq hC.1 hC.2.1 hd (Int.toNat_of_nonneg hj).symm (fun _ => k ad ca L H locs cells slots ls hag hpe hls hW hS hc hs) (fun hn => absurd (of_decide_eq_true hcd) hn)
    · rename_i hcd
      cases h
      intro ad ca L H locs cells slots ls hag hpe hls hW hS hc hs
      exact lv_if_eq hC.1 hC.2.1 hd (Int.toNat_of_nonneg hj).symm (fun hn => absurd (decide_eq_true hn) hcd) (fun _ => k ad ca L H locs cells slots ls hag hpe hls hW hS hc hs)
  · cases h
theorem pm_g_icmp_eq (hC : pm_Cx X qv D A adI mi p R s m args meth c) {off : Int} (hd : decode (pm_mb mi) pc = .ok (.if_icmp .eq off, 3)) (h : pm_br2 pc lo st g iv (pm_cd2 .eq) off = some (.inl S')) (k : pm_Go qv D A adI gI mi p l e R s m args below meth c Q S') : pm_Go qv D A adI gI mi p l e R s m args below meth c Q (pc, lo, st, g, iv) := by
  unfold pm_br2 at h
  split at h
  · obtain ⟨hj, h⟩ := pm_ifn_inv h
    split at h
    · rename_i hcd
      cases h
      intro ad ca L H locs cells slots ls hag hpe hls hW hS hc hs
      exact lv_icmp_eq hC.1 hC.2.1 hd (Int.toNat_of_nonneg hj).symm (fun _ => k ad ca L H locs cells slots ls hag hpe hls hW hS hc hs) (fun hn => absurd (of_decide_eq_true hcd) hn)
    · rename_i hcd
      cases h
      intro ad ca L H locs cells slots ls hag hpe hls hW hS hc hs
      exact lv_icmp_eq hC.1 hC.2.1 hd (Int.toNat_of_nonneg hj).symm (fun hn => absurd (decide_eq_true hn) hcd) (fun _ => k ad ca L H locs cells slots ls hag hpe hls hW hS hc hs)
  · cases h
theorem pm_g_if_ne (hC : pm_Cx X qv D A adI mi p R s m args meth c) {off : Int} (hd : decode (pm_mb mi) pc = .ok (.ifCond .ne off, 3)) (h : pm_br1 pc lo st g iv (pm_cd1 .ne) off = some (.inl S')) (k : pm_Go qv D A adI gI mi p l e R s m args below meth c Q S') : pm_Go qv D A adI gI mi p l e R s m args below meth c Q (pc, lo, st, g, iv) := by
  unfold pm_br1 at h
  split at h
  · obtain ⟨hj, h⟩ := pm_ifn_inv h
    split at h
    · rename_i hcd
      cases h
      intro ad ca L H locs cells slots ls hag hpe hls hW hS hc hs
      exact lv_if_ne hC.1 hC.2.1 hd (Int.toNat_of_nonneg hj).symm (fun _ => k ad ca L H locs cells slots ls hag hpe hls hW hS hc hs) (fun hn => absurd hn (of_decide_eq_true hcd))
    · rename_i hcd
      cases h
      intro ad ca L H locs cells slots ls hag hpe hls hW hS hc hs
      exact lv_if_ne hC.1 hC.2.1 hd (Int.toNat_of_nonneg hj).symm (fun hn => absurd (decide_eq_true hn) hcd) (fun _ => k ad ca L H locs cells slots ls hag hpe hls hW hS hc hs)
  · cases h
theorem pm_g_icmp_ne (hC : pm_Cx X qv D A adI mi p R s m args meth c) {off : Int} (hd : decode (pm_mb mi) pc = .ok (.if_icmp .ne off, 3)) (h : pm_br2 pc lo st g iv (pm_cd2 .ne) off = some (.inl S')) (k : pm_Go qv D A adI gI mi p l e R s m args below meth c Q S') : pm_Go qv D A adI gI mi p l e R s m args below meth c Q (pc, lo, st, g, iv) := by
  unfold pm_br2 at h
  split at h
  · obtain ⟨hj, h⟩ := pm_ifn_inv h
    split at h
    · rename_i hcd
      cases h
      intro ad ca L H locs cells slots ls hag hpe hls hW hS hc hs
      exact lv_icmp_ne hC.1 hC.2.1 hd (Int.toNat_of_nonneg hj).symm (fun _ => k ad ca L H locs cells slots ls hag hpe hls hW hS hc hs) (fun hn => absurd hn (of_decide_eq_true hcd))
    · rename_i hcd
      cases h
      intro ad ca L H locs cells slots ls hag hpe hls hW hS hc hs
      exact lv_icmp_ne hC.1 hC.2.1 hd (Int.toNat_of_nonneg hj).symm (fun hn => absurd (decide_eq_true hn) hcd) (fun _ => k ad ca L H locs cells slots ls hag hpe hls hW hS hc hs)
  · cases h
theorem pm_g_if_lt (hC : pm_Cx X qv D A adI mi p R s m args meth c) {off : Int} (hd : decode (pm_mb mi) pc = .ok (.ifCond .lt off, 3)) (h : pm_br1 pc lo st g iv (pm_cd1 .lt) off = some (.inl S')) (k : pm_Go qv D A adI gI mi p l e R s m args below meth c Q S') : pm_Go qv D A adI gI mi p l e R s m args below meth c Q (pc, lo, st, g, iv) := by
  unfold pm_br1 at h
  split at h
  · obtain ⟨hj, h⟩ := pm_ifn_inv h
    split at h
    · rename_i hcd
      cases h
      intro ad ca L H locs cells slots ls hag hpe hls hW hS hc hs
      exact lv_if_lt hC.1 hC.2.1 hd (Int.toNat_of_nonneg hj).symm (fun _ => k ad ca L H locs cells slots ls hag hpe hls hW hS hc hs) (fun hn => absurd (of_decide_eq_true hcd) hn)
    · rename_i hcd
      cases h
      intro ad ca L H locs cells slots ls hag hpe hls hW hS hc hs
      exact lv_if_lt hC.1 hC.2.1 hd (Int.toNat_of_nonneg hj).symm (fun hn => absurd (decide_eq_true hn) hcd) (fun _ => k ad ca L H locs cells slots ls hag hpe hls hW hS hc hs)
  · cases h
theorem pm_g_icmp_lt (hC : pm_Cx X qv D A adI mi p R s m args meth c) {off : Int} (hd : decode (pm_mb mi) pc = .ok (.if_icmp .lt off, 3)) (h : pm_br2 pc lo st g iv (pm_cd2 .lt) off = some (.inl S')) (k : pm_Go qv D A adI gI mi p l e R s m args below meth c Q S') : pm_Go qv D A adI gI mi p l e R s m args below meth c Q (pc, lo, st, g, iv) := by
  unfold pm_br2 at h
  split at h
  · obtain ⟨hj, h⟩ := pm_ifn_inv h
    split at h
    · rename_i hcd
      cases h
      intro ad ca L H locs cells slots ls hag hpe hls hW hS hc hs
      exact lv_icmp_lt hC.1 hC.2.1 hd (Int.toNat_of_nonneg hj).symm (fun _ => k ad ca L H locs cells slots ls hag hpe hls hW hS hc hs) (fun hn => absurd (of_decide_eq_true hcd) hn)
    · rename_i hcd
      cases h
      intro ad ca L H locs cells slots ls hag hpe hls hW hS hc hs
      exact lv_icmp_lt hC.1 hC.2.1 hd (Int.toNat_of_nonneg hj).symm (fun hn => absurd (decide_eq_true hn) hcd) (fun _ => k ad ca L H locs cells slots ls hag hpe hls hW hS hc hs)
  · cases h
theorem pm_g_if_ge (hC : pm_Cx X qv D A adI mi p R s m args meth c) {off : Int} (hd : decode (pm_mb mi) pc = .ok (.ifCond .ge off, 3)) (h : pm_br1 pc lo st g iv (pm_cd1 .ge) off = some (.inl S')) (k : pm_Go qv D A adI gI mi p l e R s m args below meth c Q S') : pm_Go qv D A adI gI mi p l e R s m args below meth c Q (pc, lo, st, g, iv) := by
  unfold pm_br1 at h
  split at h
  · obtain ⟨hj, h⟩ := pm_ifn_inv h
    split at h
    · rename_i hcd
      cases h
      intro ad ca L H locs cells slots ls hag hpe hls hW hS hc hs
      exact lv_if_ge hC.1 hC.2.1 hd (Int.toNat_of_nonneg hj).symm (fun _ => k ad ca L H locs cells slots ls hag hpe hls hW hS hc hs) (fun hn => absurd (of_decide_eq_true hcd) hn)
    · rename_i hcd
      cases h
      intro ad ca L H locs cells slots ls hag hpe hls hW hS hc hs
      exact lv_if_ge hC.1 hC.2.1 hd (Int.toNat_of_nonneg hj).symm (fun hn => absurd (decide_eq_true hn) hcd) (fun _ => k ad ca L H locs cells slots ls hag hpe hls hW hS hc hs)
  · cases h
theorem pm_g_icmp_ge (hC : pm_Cx X qv D A adI mi p R s m args meth c) {off : Int} (hd : decode (pm_mb mi) pc = .ok (.if_icmp .ge off, 3)) (h : pm_br2 pc lo st g iv (pm_cd2 .ge) off = some (.inl S')) (k : pm_Go qv D A adI gI mi p l e R s m args below meth c Q S') : pm_Go qv D A adI gI mi p l e R s m args below meth c Q (pc, lo, st, g, iv) := by
  unfold pm_br2 at h
  split at h
  · obtain ⟨hj, h⟩ := pm_ifn_inv h
    split at h
    · rename_i hcd
      cases h
      intro ad ca L H locs cells slots ls hag hpe hls hW hS hc hs
      exact lv_icmp_ge hC.1 hC.2.1 hd (Int.toNat_of_nonneg hj).symm (fun _ => k ad ca L H locs cells slots ls hag hpe hls hW hS hc hs) (fun hn => absurd (of_decide_eq_true hcd) hn)
    · rename_i hcd
      cases h
      intro ad ca L H locs cells slots ls hag hpe hls hW hS hc hs
      exact lv_icmp_ge hC.1 hC.2.1 hd (Int.toNat_of_nonneg hj).symm (fun hn => absurd (decide_eq_true hn) hcd) (fun _ => k ad ca L H locs cells slots ls hag hpe hls hW hS hc hs)
  · cases h
theorem pm_g_if_gt (hC : pm_Cx X qv D A adI mi p R s m args meth c) {off : Int} (hd : decode (pm_mb mi) pc = .ok (.ifCond .gt off, 3)) (h : pm_br1 pc lo st g iv (pm_cd1 .gt) off = some (.inl S')) (k : pm_Go qv D A adI gI mi p l e R s m args below meth c Q S') : pm_Go qv D A adI gI mi p l e R s m args below meth c Q (pc, lo, st, g, iv) := by
  unfold pm_br1 at h
  split at h
  · obtain ⟨hj, h⟩ := pm_ifn_inv h
    split at h
    · rename_i hcd
      cases h
      intro ad ca L H locs cells slots ls hag hpe hls hW hS hc hs
      exact lv_if_gt hC.1 hC.2.1 hd (Int.toNat_of_nonneg hj).symm (fun _ => k ad ca L H locs cells slots ls hag hpe hls hW hS hc hs) (fun hn => absurd (of_decide_eq_true hcd) hn)
    · rename_i hcd
      cases h
      intro ad ca L H locs cells slots ls hag hpe hls hW hS hc hs
      exact lv_if_gt hC.1 hC.2.1 hd (Int.toNat_of_nonneg hj).symm (fun hn => absurd (decide_eq_true hn) hcd) (fun _ => k ad ca L H locs cells slots ls hag hpe hls hW hS hc hs)
  · cases h
theorem pm_g_icmp_gt (hC : pm_Cx X qv D A adI mi p R s m args meth c) {off : Int} (hd : decode (pm_mb mi) pc = .ok (.if_icmp .gt off, 3)) (h : pm_br2 pc lo st g iv (pm_cd2 .gt) off = some (.inl S')) (k : pm_Go qv D A adI gI mi p l e R s m args below meth c Q S') : pm_Go qv D A adI gI mi p l e R s m args below meth c Q (pc, lo, st, g, iv) := by
  unfold pm_br2 at h
  split at h
  · obtain ⟨hj, h⟩ := pm_ifn_inv h
    split at h
    · rename_i hcd
      cases h
      intro ad ca L H locs cells slots ls hag hpe hls hW hS hc hs
      exact lv_icmp_gt hC.1 hC.2.1 hd (Int.toNat_of_nonneg hj).symm (fun _ => k ad ca L H locs cells slots ls hag hpe hls hW hS hc hs) (fun hn => absurd (of_decide_eq_true hcd) hn)
    · rename_i hcd
      cases h
      intro ad ca L H locs cells slots ls hag hpe hls hW hS hc hs
      exact lv_icmp_gt hC.1 hC.2.1 hd (Int.toNat_of_nonneg hj).symm (fun hn => absurd (decide_eq_true hn) hcd) (fun _ => k ad ca L H locs cells slots ls hag hpe hls hW hS hc hs)
  · cases h
theorem pm_g_if_le (hC : pm_Cx X qv D A adI mi p R s m args meth c) {off : Int} (hd : decode (pm_mb mi) pc = .ok (.ifCond .le off, 3)) (h : pm_br1 pc lo st g iv (pm_cd1 .le) off = some (.inl S')) (k : pm_Go qv D A adI gI mi p l e R s m args below meth c Q S') : pm_Go qv D A adI gI mi p l e R s m args below meth c Q (pc, lo, st, g, iv) := by
  unfold pm_br1 at h
  split at h
  · obtain ⟨hj, h⟩ := pm_ifn_inv h
    split at h
    · rename_i hcd
      cases h
      intro ad ca L H locs cells slots ls hag hpe hls hW hS hc hs
      exact lv_if_le hC.1 hC.2.1 hd (Int.toNat_of_nonneg hj).symm (fun _ => k ad ca L H locs cells slots ls hag hpe hls hW hS hc hs) (fun hn => absurd (of_decide_eq_true hcd) hn)
    · rename_i hcd
      cases h
      intro ad ca L H locs cells slots ls hag hpe hls hW hS hc hs
      exact lv_if_le hC.1 hC.2.1 hd (Int.toNat_of_nonneg hj).symm (fun hn => absurd (decide_eq_true hn) hcd) (fun _ => k ad ca L H locs cells slots ls hag hpe hls hW hS hc hs)
  · cases h
theorem pm_g_icmp_le (hC : pm_Cx X qv D A adI mi p R s m args meth c) {off : Int} (hd : decode (pm_mb mi) pc = .ok (.if_icmp .le off, 3)) (h : pm_br2 pc lo st g iv (pm_cd2 .le) off = some (.inl S')) (k : pm_Go qv D A adI gI mi p l e R s m args below meth c Q S') : pm_Go qv D A adI gI mi p l e R s m args below meth c Q (pc, lo, st, g, iv) := by
  unfold pm_br2 at h
  split at h
  · obtain ⟨hj, h⟩ := pm_ifn_inv h
    split at h
    · rename_i hcd
      cases h
      intro ad ca L H locs cells slots ls hag hpe hls hW hS hc hs
      exact lv_icmp_le hC.1 hC.2.1 hd (Int.toNat_of_nonneg hj).symm (fun _ => k ad ca L H locs cells slots ls hag hpe hls hW hS hc hs) (fun hn => absurd (of_decide_eq_true hcd) hn)
    · rename_i hcd
      cases h
      intro ad ca L H locs cells slots ls hag hpe hls hW hS hc hs
      exact lv_icmp_le hC.1 hC.2.1 hd (Int.toNat_of_nonneg hj).symm (fun hn => absurd (decide_eq_true hn) hcd) (fun _ => k ad ca L H locs cells slots ls hag hpe hls hW hS hc hs)
  · cases h
end SND

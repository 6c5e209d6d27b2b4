/-! SOUNDNESS of the small machine: the whole of it -/
section SN
variable {X : pm_X} {cal : pm_C} {qv : Value} {D : va_G} {A : Nat → Prop} {adI : Nat → Nat} {gI : pm_G} {mi : Nat} {p : Program} {l : Launch} {e : Env} {R : Room} {s : State} {m : MethodId} {args : Array Value} {below : List Frame} {meth : Method} {c : Code} {Q : State → Prop} {d : Nat}
theorem pm_hd {b : ByteArray} {pc len n : Nat} {ins : Instr} (hd : decode b pc = .ok (ins, len)) (hl : pm_len ins = some len ∨ pm_len ins = none) (h : pm_len ins = some n) : decode b pc = .ok (ins, n) := by
  rcases hl with q | q
  · rw [q] at h
    cases h
    exact hd
  · rw [q] at h
    cases h
theorem pm_g_ifC {S' : pm_S} {pc : Nat} {lo : List (Option Value)} {st : List Value} {g : pm_G} {iv : pm_V} {cd : ClassFile.Cond} {off : Int} (hC : pm_Cx X qv D A adI mi p R s m args meth c) (hd : decode (pm_mb mi) pc = .ok (.ifCond cd off, 3)) (h : pm_br1 pc lo st g iv (pm_cd1 cd) off = some (.inl S')) (k : pm_Go qv D A adI gI mi p l e R s m args below meth c Q S') : pm_Go qv D A adI gI mi p l e R s m args below meth c Q (pc, lo, st, g, iv) := by
  cases cd
  · exact pm_g_if_eq hC hd h k
  · exact pm_g_if_ne hC hd h k
  · exact pm_g_if_lt hC hd h k
  · exact pm_g_if_ge hC hd h k
  · exact pm_g_if_gt hC hd h k
  · exact pm_g_if_le hC hd h k
theorem pm_g_icC {S' : pm_S} {pc : Nat} {lo : List (Option Value)} {st : List Value} {g : pm_G} {iv : pm_V} {cd : ClassFile.Cond} {off : Int} (hC : pm_Cx X qv D A adI mi p R s m args meth c) (hd : decode (pm_mb mi) pc = .ok (.if_icmp cd off, 3)) (h : pm_br2 pc lo st g iv (pm_cd2 cd) off = some (.inl S')) (k : pm_Go qv D A adI gI mi p l e R s m args below meth c Q S') : pm_Go qv D A adI gI mi p l e R s m args below meth c Q (pc, lo, st, g, iv) := by
  cases cd
  · exact pm_g_icmp_eq hC hd h k
  · exact pm_g_icmp_ne hC hd h k
  · exact pm_g_icmp_lt hC hd h k
  · exact pm_g_icmp_ge hC hd h k
  · exact pm_g_icmp_gt hC hd h k
  · exact pm_g_icmp_le hC hd h k
theorem pm_step {S S' : pm_S} (hC : pm_Cx X qv D A adI mi p R s m args meth c) (hck : pm_CK cal) (hct : pm_Ct X l cal d) (hR : d + 1 ≤ R.frames ∧ 64 * (d + 1) ≤ R.locals) (hI : pm_Iv S) (h : pm_n X cal mi S = some (.inl S')) (hb : S'.2.2.2.1.2.2.2.1 ≤ gI.2.2.2.1 + R.cells ∧ S'.2.2.2.1.2.2.2.2 ≤ gI.2.2.2.2 + R.slots) (k : pm_Go qv D A adI gI mi p l e R s m args below meth c Q S') : pm_Go qv D A adI gI mi p l e R s m args below meth c Q S := by
  obtain ⟨pc, lo, st, g, iv⟩ := S
  unfold pm_n at h
  split at h
  · rename_i ins len hd
    split at h
    · rename_i hl
      have hd : decode (pm_mb mi) pc = .ok (ins, len) := hd
      have h : pm_i X cal mi pc lo st g iv ins = some (.inl S') := h
      unfold pm_i at h
      split at h
      any_goals first
        | exact pm_g_iconst hC (pm_hd hd hl rfl) h k
        | exact pm_g_bipush hC (pm_hd hd hl rfl) h k
        | exact pm_g_sipush hC (pm_hd hd hl rfl) h k
        | exact pm_g_lconst hC (pm_hd hd hl rfl) h k
        | exact pm_g_iload_n hC (pm_hd hd hl rfl) h k
        | exact pm_g_iload hC (pm_hd hd hl rfl) h k
        | exact pm_g_lload_n hC (pm_hd hd hl rfl) h k
        | exact pm_g_lload hC (pm_hd hd hl rfl) h k
        | exact pm_g_aload_n hC (pm_hd hd hl rfl) h k
        | exact pm_g_istore_n hC (pm_hd hd hl rfl) h k
        | exact pm_g_istore hC (pm_hd hd hl rfl) h k
        | exact pm_g_astore_n hC (pm_hd hd hl rfl) h k
        | exact pm_g_lstore_n hC (pm_hd hd hl rfl) h k
        | exact pm_g_iinc hC (pm_hd hd hl rfl) h k
        | exact pm_g_iadd hC (pm_hd hd hl rfl) h k
        | exact pm_g_isub hC (pm_hd hd hl rfl) h k
        | exact pm_g_imul hC (pm_hd hd hl rfl) h k
        | exact pm_g_iand hC (pm_hd hd hl rfl) h k
        | exact pm_g_ior hC (pm_hd hd hl rfl) h k
        | exact pm_g_ixor hC (pm_hd hd hl rfl) h k
        | exact pm_g_ishl hC (pm_hd hd hl rfl) h k
        | exact pm_g_ishr hC (pm_hd hd hl rfl) h k
        | exact pm_g_iushr hC (pm_hd hd hl rfl) h k
        | exact pm_g_idiv hC (pm_hd hd hl rfl) h k
        | exact pm_g_irem hC (pm_hd hd hl rfl) h k
        | exact pm_g_ineg hC (pm_hd hd hl rfl) h k
        | exact pm_g_i2b hC (pm_hd hd hl rfl) h k
        | exact pm_g_i2s hC (pm_hd hd hl rfl) h k
        | exact pm_g_i2c hC (pm_hd hd hl rfl) h k
        | exact pm_g_i2l hC (pm_hd hd hl rfl) h k
        | exact pm_g_l2i hC (pm_hd hd hl rfl) h k
        | exact pm_g_ladd hC (pm_hd hd hl rfl) h k
        | exact pm_g_land hC (pm_hd hd hl rfl) h k
        | exact pm_g_lor hC (pm_hd hd hl rfl) h k
        | exact pm_g_lshl hC (pm_hd hd hl rfl) h k
        | exact pm_g_lshr hC (pm_hd hd hl rfl) h k
        | exact pm_g_lcmp hC (pm_hd hd hl rfl) h k
        | exact pm_g_dup hC (pm_hd hd hl rfl) h k
        | exact pm_g_dup2 hC (pm_hd hd hl rfl) h k
        | exact pm_g_pop hC (pm_hd hd hl rfl) h k
        | exact pm_g_goto hC (pm_hd hd hl rfl) h k
        | exact pm_g_ifC hC (pm_hd hd hl rfl) h k
        | exact pm_g_icC hC (pm_hd hd hl rfl) h k
        | exact pm_g_nn hC (pm_hd hd hl rfl) h k
        | exact pm_g_tsw hC hd h k
        | exact pm_g_lsw hC hd h k
        | exact pm_g_gf hC (pm_hd hd hl rfl) h k
        | exact pm_g_pf hC (pm_hd hd hl rfl) h k
        | exact pm_g_gs hC (pm_hd hd hl rfl) h k
        | exact pm_g_aln hC (pm_hd hd hl rfl) h k
        | exact pm_g_ald (b := true) hC (pm_hd hd hl rfl) h k
        | exact pm_g_ald (b := false) hC (pm_hd hd hl rfl) h k
        | exact pm_g_ast (b := true) hC (pm_hd hd hl rfl) h k
        | exact pm_g_ast (b := false) hC (pm_hd hd hl rfl) h k
        | exact pm_g_aal hC (pm_hd hd hl rfl) h k
        | exact pm_g_aas hC (pm_hd hd hl rfl) h k
        | exact pm_g_new hC hI (pm_hd hd hl rfl) h hb k
        | exact pm_g_nwa hC hI (pm_hd hd hl rfl) h hb k
        | exact pm_g_ana hC hI (pm_hd hd hl rfl) h hb k
        | exact pm_g_kI3 hC (pm_hd hd hl rfl) h k
        | exact pm_g_kL hC (pm_hd hd hl rfl) h k
        | exact pm_g_inv hC hck hct hR hI (pm_hd hd hl rfl) h hb k
        | exact pm_g_ins hC hck hct hR hI (pm_hd hd hl rfl) h hb k
        | exact pm_g_isp hC hck hct hR hI (pm_hd hd hl rfl) h hb k
        | exact (pm_ri_no h).elim
        | exact (pm_rl_no h).elim
        | exact (pm_rv_no h).elim
        | (cases h; done)
      · split at h
        · exact pm_g_kI2 hC (pm_hd hd hl rfl) h k
        · exact pm_g_kS hC (pm_hd hd hl rfl) h k
    · cases h
  · cases h
/-- a run from a place, its end given -/
theorem pm_run {rF : pm_R} (hC : pm_Cx X qv D A adI mi p R s m args meth c) (hck : pm_CK cal) (hct : pm_Ct X l cal d) (hR : d + 1 ≤ R.frames ∧ 64 * (d + 1) ≤ R.locals) (hb : rF.2.1.2.2.2.1 ≤ gI.2.2.2.1 + R.cells ∧ rF.2.1.2.2.2.2 ≤ gI.2.2.2.2 + R.slots)
    (hend : ∀ S, pm_n X cal mi S = some (.inr rF) → pm_Go qv D A adI gI mi p l e R s m args below meth c Q S) : ∀ (n : Nat) (S : pm_S), pm_x X cal mi n S = some rF → pm_Iv S → pm_Go qv D A adI gI mi p l e R s m args below meth c Q S := by
  intro n
  induction n with
  | zero => intro S h; cases h
  | succ n ih =>
    intro S h hI
    simp only [pm_x] at h
    split at h
    · cases h
    · rename_i S1 he
      obtain ⟨h1, h2⟩ := pm_v_n hck he hI
      obtain ⟨-, h3, -⟩ := pm_v_x hck h h1
      exact pm_step hC hck hct hR hI he ⟨Nat.le_trans h3.2.1 hb.1, Nat.le_trans h3.2.2 hb.2⟩ (ih S1 h h1)
    · rename_i r he
      cases h
      exact hend S he
theorem pm_snd : ∀ d : Nat, pm_Ct X l (pm_c X d) d := by
  intro d
  induction d with
  | zero => intro t as g iv r ht h; cases h
  | succ d ih =>
    intro t as g iv r ht h hg has qv D ad ca L sz hq
    have hM := pm_m_ok ht
    have hlen : (pm_ea as).length ≤ pm_ml t := by
      by_cases hl : (pm_ea as).length ≤ pm_ml t
      · exact hl
      · exact absurd h (by show (if (pm_ea as).length ≤ pm_ml t then _ else none) ≠ _; rw [if_neg hl]; exact fun e => by cases e)
    rw [pm_c_at hlen] at h
    obtain ⟨n, hn⟩ := pm_at_ex h
    have hIv := pm_iv_en (iv := iv) (n := pm_ml t) hg has
    have hle := (pm_v_x (pm_c_ck d) hn hIv).2.1
    refine Met.ofW (cc := pm_mb t) (maxL := pm_ml t) (ret := pm_mr t) hM.2.2.2.2.2.1 rfl ?_
    intro p e s m args below meth c s₁ B hml hv
    obtain ⟨rfl, hsz, hW, hK, hE⟩ := hv
    have hts0 := atoms_spec (ws := pm_ws t) B.pre
    have hown : s.vm.findClass (pm_my t).cls = some m.cls := findClass_of_methodNamed B.named
    rw [hM.2.2.2.2.1] at hown
    have hnm : meth.name = (pm_my t).name := (name_of_methodNamed B.named B.method).1
    have hC : pm_Cx X qv D (va_A (L.map (pm_e ad ca g iv)) sz) ad t p (headSpec (pm_ws t) (pm_rm (d + 1) (r.2.1.2.2.2.1 - g.2.2.2.1) (r.2.1.2.2.2.2 - g.2.2.2.2))).room s m ((as.map (pm_cv ad qv)).toArray) meth c :=
      ⟨B.exec, B.bytes, hml, hown, fun w hw => hts0 w (List.mem_cons_of_mem _ hw), fun hk => by rw [hnm]; exact (hM.2.2.2.2.2.2.2.2 hk).1, hK, hE, fun q hq => Or.inr (by rw [← hsz]; exact hq), by show 64 ≤ 64 * (d + 1); omega, by show 1 ≤ d + 1; omega⟩
    have hlocks := B.notSynchronized
    have hr := B.returns
    have hl1 : g.2.2.2.1 ≤ r.2.1.2.2.2.1 := hle.2.1
    have hl2 : g.2.2.2.2 ≤ r.2.1.2.2.2.2 := hle.2.2
    have run := pm_run (X := X) (Q := MQ below (pm_Q D (va_A (L.map (pm_e ad ca g iv)) sz) ad g r) ((as.map (pm_cv ad qv)).toArray) s (r.2.1.2.2.2.1 - g.2.2.2.1) (r.2.1.2.2.2.2 - g.2.2.2.2) (va_A (L.map (pm_e ad ca g iv)) sz)) (gI := g) (e := e) (below := below) hC (pm_c_ck d) ih ⟨Nat.le_refl _, Nat.le_refl _⟩ ⟨by show r.2.1.2.2.2.1 ≤ g.2.2.2.1 + (r.2.1.2.2.2.1 - g.2.2.2.1); omega, by show r.2.1.2.2.2.2 ≤ g.2.2.2.2 + (r.2.1.2.2.2.2 - g.2.2.2.2); omega⟩ ?_ n _ hn hIv ad ca L s.heap [] 0 0
    · have hl := pm_entry (ad := ad) hq as hlen
      rw [lg_entry_eq]
      exact run _ (fun _ _ => rfl) (fun _ h => h) hl ⟨hW.1, hW.2.1, hW.2.2.1, hW.2.2.2.1, hW.2.2.2.2.1, hW.2.2.2.2.2⟩ va_S.rf (Nat.zero_add _) (Nat.zero_add _)
    · intro S hS
      intro ad' ca' L' H locs cells slots ls hag hpe hls hW' hS' hc hs
      rcases pm_n_end hS with ⟨x, h1, ⟨ty, h2, h3⟩, rfl, h4⟩ | ⟨x, h1, h2, rfl, h4⟩ | ⟨h1, h2, rfl, h4⟩
      · rw [h1]
        have hc0 : cells = S.2.2.2.1.2.2.2.1 - g.2.2.2.1 := by omega
        have hs0 : slots = S.2.2.2.1.2.2.2.2 - g.2.2.2.2 := by omega
        show W p l e _ s m _ below meth c H locs cells slots (MQ below _ _ s (S.2.2.2.1.2.2.2.1 - g.2.2.2.1) (S.2.2.2.1.2.2.2.2 - g.2.2.2.2) _) (F0 m S.1 ls [.int x])
        rw [← hc0, ← hs0]
        refine W.zret hC.1 hC.2.1 (by rw [hr]; exact h2) h3 (fun t0 ht0 hWm => ⟨ad', ca', L', rfl, hag, ⟨hW'.1, hW'.2.1, hW'.2.2.1, by rw [ht0]; exact hW'.2.2.2.1, hW'.2.2.2.2.1, fun k q n hk h8 => ?_⟩, hS'.F ht0⟩) hS'.2.2 h4 hlocks
        obtain ⟨q1, q2, q3⟩ := hW'.2.2.2.2.2 k q n hk h8
        exact ⟨q1, arrOfT_moved hWm.alike q2, va_RA.moved hWm.alike q3⟩
      · rw [h1]
        have hc0 : cells = S.2.2.2.1.2.2.2.1 - g.2.2.2.1 := by omega
        have hs0 : slots = S.2.2.2.1.2.2.2.2 - g.2.2.2.2 := by omega
        show W p l e _ s m _ below meth c H locs cells slots (MQ below _ _ s (S.2.2.2.1.2.2.2.1 - g.2.2.2.1) (S.2.2.2.1.2.2.2.2 - g.2.2.2.2) _) (F0 m S.1 ls [.long x])
        rw [← hc0, ← hs0]
        refine W.lret hC.1 hC.2.1 (by rw [hr]; exact h2) (fun t0 ht0 hWm => ⟨ad', ca', L', rfl, hag, ⟨hW'.1, hW'.2.1, hW'.2.2.1, by rw [ht0]; exact hW'.2.2.2.1, hW'.2.2.2.2.1, fun k q n hk h8 => ?_⟩, hS'.F ht0⟩) hS'.2.2 h4 hlocks
        obtain ⟨q1, q2, q3⟩ := hW'.2.2.2.2.2 k q n hk h8
        exact ⟨q1, arrOfT_moved hWm.alike q2, va_RA.moved hWm.alike q3⟩
      · rw [h1]
        have hc0 : cells = S.2.2.2.1.2.2.2.1 - g.2.2.2.1 := by omega
        have hs0 : slots = S.2.2.2.1.2.2.2.2 - g.2.2.2.2 := by omega
        show W p l e _ s m _ below meth c H locs cells slots (MQ below _ _ s (S.2.2.2.1.2.2.2.1 - g.2.2.2.1) (S.2.2.2.1.2.2.2.2 - g.2.2.2.2) _) (F0 m S.1 ls [])
        rw [← hc0, ← hs0]
        refine W.vret hC.1 hC.2.1 (by rw [hr]; exact h2) (fun t0 ht0 hWm => ⟨ad', ca', L', rfl, hag, ⟨hW'.1, hW'.2.1, hW'.2.2.1, by rw [ht0]; exact hW'.2.2.2.1, hW'.2.2.2.2.1, fun k q n hk h8 => ?_⟩, hS'.F ht0⟩) hS'.2.2 h4 hlocks
        obtain ⟨q1, q2, q3⟩ := hW'.2.2.2.2.2 k q n hk h8
        exact ⟨q1, arrOfT_moved hWm.alike q2, va_RA.moved hWm.alike q3⟩
end SN

def pm_g0 : pm_G := (fun _ => none, fun _ _ => none, 0, 0, 0)
/-- the law's method among the methods of the small machine -/
theorem pm_lawB : pm_mb 212 = code := rfl
theorem pm_lawL : pm_ml 212 = 4 := rfl
theorem pm_lawC : pm_cn (pm_mc 212) = R_law := rfl
set_option maxRecDepth 20000 in
theorem pm_lawK : ¬ pm_mk 212 = 2 := by decide +kernel
set_option maxHeartbeats 1000000 in
/-- YOUR PART: from the entry, for every script of at most 3072 ints, the law comes to its end with true ('hflags': the launch's flags, for a law that throws: no stack traces) -/
theorem whole_start {p : Program} {e : Env} {s : State} {m : MethodId} {below : List Frame} {meth : Method} {c : Code} (l : Launch) (hflags : l.flags = flags0) {b L : Nat} {xs : Nat → Int32} (hL : L ≤ 3072) (C0 : lw_At p s m meth c b L xs) : W p l e room_1 s m #[Value.ref b] below meth c s.heap [] 0 0 (lw_Z below #[Value.ref b] s) (entryFrame m ([Value.ref b] : List Value).toArray 4) := by
  obtain ⟨hx, hb, hr, hml, hown, hts, hX, hbl, hlocks, hgv⟩ := C0
  obtain ⟨qv, ad, had, hE⟩ := pm_env0 hts hX hbl hgv
  have hq := hE.2.2.2.2.1
  have hTB : ∀ w ∈ pm_TB, w.before #[Value.ref b] s = true := fun w hw => hts w (List.mem_filter.mp hw).1
  have hkn : ∀ ci : Nat, ∃ q : ClassId × (Nat → Nat), ci < 7 → u_Kn s (pm_cn ci) (pm_T ci) (pm_nf ci) q.1 q.2 := by
    intro ci
    by_cases hci : ci < 7
    · obtain ⟨cC, iS, h⟩ := u_known (C := pm_cn ci) (T := pm_T ci) (N := pm_nf ci) (n := pm_nf ci) hTB (pm_c_lay hci) (hTB _ (pm_c_ins hci))
      exact ⟨(cC, iS), fun _ => h⟩
    · exact ⟨(0, fun _ => 0), fun h => absurd h hci⟩
  obtain ⟨qs, hqs⟩ := Classical.axiomOfChoice hkn
  have hK : va_K (fun k => (qs k).1, fun k => (qs k).2) pm_cl [] s := by
    refine ⟨fun k x hx => ?_, fun k x h => by simp at h⟩
    have hk : k < 7 := (List.getElem?_eq_some_iff.mp hx).1
    rw [pm_cl_at k hk] at hx
    cases hx
    exact hqs k hk
  obtain ⟨g', iv', hat, hc, hs⟩ := pm_law (L, xs) hL
  obtain ⟨n, hn⟩ := pm_at_ex hat
  have hC : pm_Cx (L, xs) qv (fun k => (qs k).1, fun k => (qs k).2) (fun q : Nat => s.heap.size ≤ q) ad 212 p room_1 s m #[Value.ref b] meth c :=
    ⟨hx, by rw [pm_lawB]; exact hb, by rw [pm_lawL]; exact hml, by rw [pm_lawC]; exact hown, hTB, fun h => absurd h pm_lawK, hK, hE, fun _ h => h, by decide, by decide⟩
  have run := pm_run (X := (L, xs)) (Q := lw_Z below #[Value.ref b] s) (gI := pm_g0) (e := e) (below := below) (l := l) hC (pm_c_ck 40) (pm_snd 40) ⟨by decide, by decide⟩ (by show g'.2.2.2.1 ≤ 0 + 600000 ∧ g'.2.2.2.2 ≤ 0 + 7302250; omega) ?_ n _ hn ⟨fun k sl t h => (by cases h), fun v hv => (by cases hv), fun v hv => ?_⟩ ad (fun _ => 0) [] s.heap [] 0 0
  · have hl := pm_entry (ad := ad) hq [.ref 1300] (n := 4) (by decide)
    rw [lg_entry_eq]
    have hl : pm_Ls ad qv ((lg_sl ([Value.ref b]) ++ List.replicate (4 - (lg_sl ([Value.ref b])).length) Slot.unset).toArray) 4 [some (.ref 1300), none, none, none] := by
      rw [← had]
      exact hl
    exact run _ (fun _ _ => rfl) (fun _ h => h) hl ⟨fun k => by simp [pm_g0], List.nodup_nil, fun k h => (by cases h), fun k q h => by simp at h, ⟨fun i j p q h => by simp at h, fun k q h => by simp at h⟩, fun k q n h => by cases h⟩ va_S.rf rfl rfl
  · intro S hS
    intro ad' ca' L' H locs cells slots ls hag hpe hls hW' hS' hc' hs'
    rcases pm_n_end hS with ⟨x, h1, -, h3, h4⟩ | ⟨x, -, -, h3, -⟩ | ⟨-, -, h3, -⟩
    · rw [h1]
      cases h3
      have hc2 : cells + 0 = S.2.2.2.1.2.2.2.1 := hc'
      have hs2 : slots + 0 = S.2.2.2.1.2.2.2.2 := hs'
      refine va_forget (fun q hq => hS'.2.2 q hq) ?_
      refine W.widen (k := 600000) (n := 7302250) (by omega) (by omega) ?_
      exact lw_ret hx hb hr hlocks (by rw [← pm_lawB]; exact h4)
    · cases h3
    · cases h3
  · rcases List.mem_cons.mp hv with h | h
    · cases h
      exact pm_okX (by decide)
    · simp at h

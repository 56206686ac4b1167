/-! the law's start -/
def h00 : MH := (fun _ => 99, fun _ => 0, fun _ _ => 0, fun _ _ => none, fun _ _ => 0, 0, 0, 0)
theorem nml_in : ∀ q ∈ NML, Cond.methodLinkNest q.1 q.2.1 q.2.2.1 q.2.2.2 ∈ lw_tbl := by decide +kernel
theorem cst_in : ∀ x ∈ [1, 2, 3], Cond.castable (exN x) (exN x) ∈ lw_tbl := by decide +kernel
theorem ndl_in : ∀ y ∈ NDL, Cond.declares y ∈ lw_tbl := by decide +kernel
theorem aol_in : ∀ C ∈ AOL, Cond.arrayOver (.object C) ∈ lw_tbl := by decide +kernel
theorem ncl_in : ∀ q ∈ NCL, Cond.not (.castable q.1 q.2) ∈ flatC (Jvm.Cond.and given_1 narrow_1) := by decide +kernel
theorem srl_in : ∀ q ∈ SRL, Cond.stringRef q.1 q.2.1 q.2.2 ∈ lw_tbl := by decide +kernel
theorem srx_in : ∀ q ∈ SRL, Cond.exactly (.string q.1 q.2.1) "java/lang/String" ∈ flatC (Jvm.Cond.and given_1 narrow_1) := by decide +kernel
theorem exN_in (x : Nat) : exN x ∈ [1, 2, 3].map exN := by
  unfold exN
  split <;> decide
theorem inst_in : ∀ ci ∈ List.range 9, Cond.instantiable (RN ci) (nF ci) ∈ lw_tbl := by decide +kernel
theorem prim_in : ∀ k ∈ [20, 21], Cond.arrayClass (tyK k) ∈ lw_tbl := by decide +kernel
theorem lays_in : Cond.laysStatic Bundle.tN "UNASSIGNED_STACK" Bundle.steD ∈ lw_tbl ∧ Cond.laysStatic Bundle.tN "SUPPRESSED_SENTINEL" Bundle.listD ∈ lw_tbl ∧ Cond.initialized Bundle.tN ∈ lw_tbl := by decide +kernel
theorem ref_in : Cond.isRef (.static Bundle.tN "UNASSIGNED_STACK" Bundle.steD) ∈ flatC (Jvm.Cond.and given_1 narrow_1) ∧ Cond.isRef (.static Bundle.tN "SUPPRESSED_SENTINEL" Bundle.listD) ∈ flatC (Jvm.Cond.and given_1 narrow_1) := by decide +kernel
theorem env_arr {s : State} {args : Array Value} (hts : ∀ w ∈ lw_tbl, w.before args s = true) : ∀ k ∈ AK, ∃ cA : ClassId, ArrOfT s cA (tyK k) ∧ va_RA s cA (tyK k) := by
  have prim : ∀ k ∈ [20, 21], ∃ (cA : ClassId) (kA : Class) (comp : ClassId), s.vm.findClass ("[" ++ (tyK k).toString) = some cA ∧ s.vm.classes[cA]? = some kA ∧ kA.kind = .array comp (tyK k) := by
    intro k hk
    obtain ⟨c, kA, comp, h1, h2, h3⟩ := Cond.arrayClass_spec (hts _ (prim_in k hk))
    exact ⟨c, kA, comp, h1, h2, h3⟩
  have refs : ∀ C ∈ AOL, ∃ cA : ClassId, ArrOfT s cA (.object C) ∧ va_RA s cA (.object C) := by
    intro C hC
    obtain ⟨comp, c, kA, h1, -, h3, h4, h5⟩ := Cond.arrayOver_spec (hts _ (aol_in C hC))
    exact ⟨c, fun N z => ⟨(fun k h => by cases h), kA, h3, comp, h4⟩, kA, comp, h3, h4, h1, h5⟩
  intro k hk
  have hk9 : k = 20 ∨ k = 21 ∨ k = 22 ∨ k = 23 ∨ k = 24 ∨ k = 25 := by simpa [AK] using hk
  rcases hk9 with rfl | rfl | rfl | rfl | rfl | rfl
  · obtain ⟨cA, kA, comp, h1, h2, h3⟩ := prim 20 (by decide)
    exact ⟨cA, fun n z => ⟨(fun k h => by cases h), kA, h2, comp, h3⟩, h1⟩
  · obtain ⟨cA, kA, comp, h1, h2, h3⟩ := prim 21 (by decide)
    exact ⟨cA, fun n z => ⟨(fun k h => by cases h), kA, h2, comp, h3⟩, h1⟩
  · exact refs RX0 (by decide)
  · exact refs RX3 (by decide)
  · exact refs RX4 (by decide)
  · exact refs RX6 (by decide)
theorem env_start {s : State} {b : Nat} (hts : ∀ w ∈ lw_tbl, w.before #[Value.ref b] s = true) (hgv : (Jvm.Cond.and given_1 narrow_1).before #[Value.ref b] s = true) : ∃ (D : va_G) (cy : Nat → ClassId), EnvO D cy s.heap.size s := by
  have hflat := flat_of_before _ hgv
  have hcl : ∀ ci : Nat, ∃ (cC : ClassId) (iS : Nat → Nat), ci < 9 → u_Kn s (RN ci) (TN ci) (nF ci) cC iS := by
    intro ci
    by_cases h : ci < 9
    · obtain ⟨cC, iS, hK⟩ := u_known (n := nF ci) hts (fun w hw => GW_t (inN h w hw)) (hts _ (inst_in ci (List.mem_range.mpr h)))
      exact ⟨cC, iS, fun _ => hK⟩
    · exact ⟨0, fun _ => 0, fun q => absurd q h⟩
  have har : ∀ k : Nat, ∃ cA : ClassId, k ∈ AK → ArrOfT s cA (tyK k) ∧ va_RA s cA (tyK k) := by
    intro k
    by_cases h : k ∈ AK
    · obtain ⟨cA, h1⟩ := env_arr hts k h
      exact ⟨cA, fun _ => h1⟩
    · exact ⟨0, fun q => absurd q h⟩
  refine ⟨(fun ci => Classical.choose (hcl ci), fun ci => Classical.choose (Classical.choose_spec (hcl ci))), fun k => Classical.choose (har k), ⟨fun c q hq => ?_, fun k q hq => ?_⟩, fun q hq => va_Nw.of rfl (hts _ (nml_in q hq)), ⟨fun x => ?_, fun y hy => va_Nw.of rfl (hts _ (ndl_in y hy))⟩, fun C hC => va_AO.of (hts _ (aol_in C hC)), fun q hq => va_Nc.of (hflat _ (ncl_in q hq)), fun q hq => ?_, vx_Zqof (hts _ lays_in.1) (hts _ lays_in.2.2) (hflat _ ref_in.1) (fun a ha => Nat.not_le.mpr ha), vx_Zqof (hts _ lays_in.2.1) (hts _ lays_in.2.2) (hflat _ ref_in.2) (fun a ha => Nat.not_le.mpr ha), Nat.le_refl _⟩
  · have hc : c < 9 := (List.getElem?_eq_some_iff.mp hq).1
    rw [CL_at hc] at hq
    cases hq
    exact Classical.choose_spec (Classical.choose_spec (hcl c)) hc
  · unfold TYL at hq
    rw [List.getElem?_map] at hq
    cases hz : AK[k]? with
    | none => rw [hz] at hq; cases hq
    | some kd =>
      rw [hz] at hq
      cases hq
      exact Classical.choose_spec (har kd) (List.mem_of_getElem? hz)
  · obtain ⟨z, hz, e⟩ := List.mem_map.mp (exN_in x)
    rw [← e]
    exact va_Nw.of rfl (hts _ (cst_in z hz))
  · obtain ⟨a, -, -, -, ha, -⟩ := Cond.exactly_spec (hflat _ (srx_in q hq))
    exact ⟨a, vk_R.of (hts _ (srl_in q hq)) ha⟩
theorem start_of {p : Program} {e : Env} {s : State} {m : MethodId} {below : List Frame} {meth : Method} {c : Code} (l : Launch) (hflags : l.flags = flags0) {b L : Nat} {xs : Nat → Int32} (C0 : lw_At p s m meth c b L xs) {r : MR} {h' : MH} (hok : M_L_law L xs h00 = some (r, h')) (hc9 : hc h' ≤ 601788) (hs9 : hs h' ≤ 7296259) : W p l e room_1 s m #[Value.ref b] below meth c s.heap [] 0 0 (lw_Z below #[Value.ref b] s) (entryFrame m ([Value.ref b] : List Value).toArray 25) := by
  obtain ⟨hx, hb, hr9, hml, hown, hts, hX, hbl, hlocks, hgv⟩ := C0
  obtain ⟨D, cy, hE⟩ := env_start hts hgv
  have hst : l.stackTraces = false := by
    unfold Launch.stackTraces
    rw [hflags]
    decide
  have F : Fr (2, 25, meth.name, some (p, l, e, room_1, s, m, #[Value.ref b], below, meth, c, D, cy, s.heap.size, (fun _ => b), 1, 601788, 7296259)) code R_law Jvm.Pilot.CGyreWatchLaw_law_r6608_32e876.ret [] 11 2 :=
    ⟨rfl, hx, hb, hml, hown, fun w hw => hts w (GW_t hw), hlocks, hE, Nat.le_refl _, Nat.le_refl _, hst, hr9, (fun q => by omega), Nat.le_of_ble_eq_true rfl, Nat.le_of_ble_eq_true rfl, rfl⟩
  have XF : XL (2, 25, meth.name, some (p, l, e, room_1, s, m, #[Value.ref b], below, meth, c, D, cy, s.heap.size, (fun _ => b), 1, 601788, 7296259)) L xs := ⟨⟨hX, hbl, Nat.le_refl _, Nat.le_refl _⟩, rfl, rfl, rfl, rfl, rfl⟩
  have k9 := (vM_L_law F rfl XF h00 r h' hok).2
  have hl := lv_entry ([.ref b]) (n := 25) (Nat.le_of_ble_eq_true rfl)
  rw [lg_entry_eq]
  exact k9 (fun _ => b) s.heap [] 0 0 _ ⟨fun k q h => (by simp [wsO, h00, hn] at h), ⟨fun i j p q h => (by simp [wsO, h00, hn] at h), fun k q h => (by simp [wsO, h00, hn] at h)⟩, fun a _ => Nat.le_of_ble_eq_true rfl, fun a j r h => by cases h⟩ va_S.rf ⟨fun _ _ => rfl, Nat.le_refl _⟩ hl (fun v hv => by cases hv) (fun q hq => fun a ea => by
    have hq2 : q ∈ [((0 : Nat), vR (some 0))] := hq
    rw [List.mem_singleton.mp hq2] at ea
    cases ea
    exact Nat.le_refl _) ⟨by have e0 : hc h00 = 0 := rfl; omega, by have e0 : hs h00 = 0 := rfl; omega⟩

/-! a reading more, on both sides -/
theorem readM_o {m : Nat → Nat → Int32} {nr a : Nat} {c b v : Int32} (h : a ∉ [22, 40, 41, 42, 43, 44]) : readM m nr c b v a = m a := by
  simp only [List.mem_cons, List.not_mem_nil, or_false, not_or] at h
  unfold readM
  simp [upw, h]
theorem readM_22 {m : Nat → Nat → Int32} {nr j : Nat} {c b v : Int32} (h : j ≠ 23) : readM m nr c b v 22 j = m 22 j := by
  unfold readM
  rw [upw_s, upd_o h]
theorem readM_23 {m : Nat → Nat → Int32} {nr : Nat} {c b v : Int32} : readM m nr c b v 22 23 = nI (nr + 1) := by
  unfold readM
  rw [upw_s, upd_s, nIs]
theorem readM_r {m : Nat → Nat → Int32} {nr : Nat} {c b v : Int32} : readM m nr c b v 40 = upd (m 40) nr (m 22 1) ∧ readM m nr c b v 41 = upd (m 41) nr c ∧ readM m nr c b v 42 = upd (m 42) nr v ∧ readM m nr c b v 43 = upd (m 43) nr b ∧ readM m nr c b v 44 = upd (m 44) nr (-1) := by
  unfold readM
  refine ⟨?_, ?_, ?_, ?_, ?_⟩ <;> simp [upw]
theorem oI_eq {o : Option Nat} {k : Nat} (ho : ∀ f, o = some f → f < 1000) (hk : k < 1000) : oI o = nI k ↔ o = some k := by
  cases o with
  | none =>
    constructor
    · intro q; rw [oI_n, nI_m1n (by omega)] at q; exact q.elim
    · intro q; cases q
  | some f =>
    rw [oI_s, nI_inj (by have := ho f rfl; omega) (by omega)]
    constructor
    · intro q; rw [q]
    · intro q; cases q; rfl
theorem kept {h h2 : MH} {K K2 m : Nat → Nat → Int32} {B nb nr ns np nsm d c : Nat} {S : STy} {v : Int32} {w : Option Nat} (R : Rel h K m B nb nr ns np nsm d S) (hr1 : nr < 100) (hc : c < 60) (hf : ∀ f, w = some f → f < nb) (E : Ext h h2) (F2 : Fix h2) (kb : hk h2 (hn h + 1) = 4) (hc2 : CGyreWatchLaw_law_r6608_32e876.hc h2 = CGyreWatchLaw_law_r6608_32e876.hc h + 1) (hs2 : hs h2 = hs h + 7) (e15 : ∀ j, hr h2 15 j = if j = nr then some (hn h + 1) else hr h 15 j) (eo : ∀ a j, a ≤ hn h → a ≠ 15 → (a ≤ 21 ∨ hk h a ≠ 4 ∧ hk h a ≠ 0) → hr h2 a j = hr h a j) (erd : ∀ r j, r < nr → hr h2 (rd h r) j = if j = 6 ∧ (w.bind fun f => lby (m 43) (nI f) nr) = some r then some (hn h + 1) else hr h (rd h r) j) (ebu : ∀ k j, k < nb → hr h2 (bu h k) j = if j = 8 ∧ w = some k then some (hn h + 1) else hr h (bu h k) j) (eb3 : hr h2 (hn h + 1) 3 = w.map (bu h)) (eb5 : hr h2 (hn h + 1) 5 = (w.bind fun f => lby (m 43) (nI f) nr).map (rd h)) (eb6 : hr h2 (hn h + 1) 6 = none) (kb0 : K2 (hn h + 1) 0 = nI d ∧ K2 (hn h + 1) 1 = nI c ∧ K2 (hn h + 1) 2 = v ∧ K2 (hn h + 1) 4 = -1) (k14 : K2 14 = upd (K 14) 1 (nI nr + 1)) (ko : ∀ a, a ≠ hn h + 1 → a ≠ 14 → (∀ f, w = some f → a ≠ bu h f) → K2 a = K a) (ku : ∀ f, w = some f → K2 (bu h f) = upd (K (bu h f)) 7 (K (bu h f) 7 + 1)) : Rel h2 K2 (readM m nr (nI c) (oI w) v) B nb (nr + 1) ns np nsm d S := by
  obtain ⟨⟨F, hN, R13, R15, R20, R21, RS⟩, C1, C2, C3, C4, C5, C6, C7, C8, C9⟩ := R
  obtain ⟨m40, m41, m42, m43, m44⟩ := readM_r (m := m) (nr := nr) (c := nI c) (b := oI w) (v := v)
  have h50 := F.2.2.1
  have fb : ∀ f, w = some f → 37 < bu h f ∧ hk h (bu h f) = 0 ∧ bu h f ≤ hn h := fun f q => by
    have := row_bu R13 (hf f q)
    exact ⟨this.2.2, this.2.1, F.le (by omega)⟩
  have kc (a : Nat) (ha : a < 22) (h14 : a ≠ 14) : K2 a = K a := ko a (by omega) h14 (fun f q => by have := (fb f q).1; omega)
  have kk (a : Nat) (h50 : 37 < a) (hka : hk h a ≠ 0) (hl : hk h a < 40) : K2 a = K a := ko a (by have := F.le hl; omega) (by omega) (fun f q z => hka (by rw [z]; exact (fb f q).2.1))
  have o22 (a : Nat) (ha : a ≤ 21) (h15 : a ≠ 15) (j : Nat) : hr h2 a j = hr h a j := eo a j (by omega) h15 (Or.inl ha)
  have bu2 : ∀ k, bu h2 k = bu h k := fun k => by unfold bu; rw [o22 13 (by decide) (by decide)]
  have rd2 : ∀ r, r < nr → rd h2 r = rd h r := fun r hr2 => by unfold rd; rw [e15, if_neg (by omega)]
  have rdn : rd h2 nr = hn h + 1 := by unfold rd; rw [e15, if_pos rfl]; rfl
  have se2 : ∀ k, se h2 k = se h k := fun k => by unfold se; rw [o22 20 (by decide) (by decide)]
  have pa2 : ∀ k, pa h2 k = pa h k := fun k => by unfold pa; rw [o22 21 (by decide) (by decide)]
  have eS : ∀ s j, s < ns → hr h2 (se h s) j = hr h (se h s) j := fun s j hs => by
    have q := row_se R20 hs
    exact eo _ j (F.le (by omega)) (by omega) (Or.inr ⟨by omega, by omega⟩)
  have ca2 : ∀ s, s < ns → ca h2 s = ca h s := fun s hs => by unfold ca; rw [se2, eS s 1 hs]
  have co2 : ∀ s, s < ns → co h2 s = co h s := fun s hs => by unfold co; rw [se2, eS s 2 hs]
  have oin : ∀ f, w = some f → f < 1000 := fun f q => by have := hf f q; omega
  have mk : ∀ k, k < nr → readM m nr (nI c) (oI w) v 43 k = m 43 k := fun k hk1 => by rw [m43, upd_o (by omega)]
  have mn : readM m nr (nI c) (oI w) v 43 nr = oI w := by rw [m43, upd_s]
  refine ⟨⟨F2, ⟨hN.1, by omega, hN.2.2⟩, R13.ext F E (o22 13 (by decide) (by decide)) (by decide), R15.push F E e15 (by decide) kb (by omega), R20.ext F E (o22 20 (by decide) (by decide)) (by decide), R21.ext F E (o22 21 (by decide) (by decide)) (by decide), RS.ext R20 F E (o22 20 (by decide) (by decide)) eS⟩, ?_, ?_, ?_, ?_, ?_, ?_, ?_, ?_, ?_⟩
  · exact C1.fr (fun a ha => by
      have : ∀ a ∈ [2, 4, 5, 7, 8, 9, 10, 11], a < 22 ∧ a ≠ 14 := by decide
      exact kc a (this a ha).1 (this a ha).2) (fun a ha => readM_o (by
      have : ∀ a ∈ [23, 24, 25, 26, 27], a ∉ [22, 40, 41, 42, 43, 44] := by decide
      exact this a ha)) (readM_22 (by decide))
  · obtain ⟨a1, a2, a3, a4, a6, a7, a8, a9⟩ := C2
    unfold Cct
    rw [kc 1 (by decide) (by decide), kc 16 (by decide) (by decide), k14, upd_s, upd_o (by decide), readM_23, readM_22 (by decide), readM_22 (by decide), readM_22 (by decide), readM_22 (by decide), readM_22 (by decide), readM_22 (by decide), nIs]
    exact ⟨a1, a2, a3, ⟨rfl, rfl⟩, a6, a7, a8, a9⟩
  · refine ⟨fun k hk1 => ?_, fun k h1 h3 => by rw [readM_o (by decide)]; exact C3.2 k h1 h3⟩
    obtain ⟨⟨b0, b1, b2, b3, b4, b5, b6, b7⟩, b8⟩ := C3.1 k hk1
    have q := row_bu R13 hk1
    have hcn : cnt (readM m nr (nI c) (oI w) v 43) (nI k) (nr + 1) = cnt (m 43) (nI k) nr + (if w = some k then 1 else 0) := by
      show cnt (readM m nr (nI c) (oI w) v 43) (nI k) nr + (if readM m nr (nI c) (oI w) v 43 nr = nI k then 1 else 0) = _
      rw [cnt_congr mk, mn]
      by_cases q : w = some k
      · rw [if_pos q, if_pos ((oI_eq oin (by omega)).mpr q)]
      · rw [if_neg q, if_neg (fun z => q ((oI_eq oin (by omega)).mp z))]
    rw [bu2, hcn]
    simp only [readM_o (m := m) (nr := nr) (c := nI c) (b := oI w) (v := v) (show (30 : Nat) ∉ [22, 40, 41, 42, 43, 44] by decide), readM_o (m := m) (nr := nr) (c := nI c) (b := oI w) (v := v) (show (31 : Nat) ∉ [22, 40, 41, 42, 43, 44] by decide), readM_o (m := m) (nr := nr) (c := nI c) (b := oI w) (v := v) (show (32 : Nat) ∉ [22, 40, 41, 42, 43, 44] by decide), readM_o (m := m) (nr := nr) (c := nI c) (b := oI w) (v := v) (show (33 : Nat) ∉ [22, 40, 41, 42, 43, 44] by decide), readM_o (m := m) (nr := nr) (c := nI c) (b := oI w) (v := v) (show (34 : Nat) ∉ [22, 40, 41, 42, 43, 44] by decide), readM_o (m := m) (nr := nr) (c := nI c) (b := oI w) (v := v) (show (35 : Nat) ∉ [22, 40, 41, 42, 43, 44] by decide)]
    by_cases hfk : w = some k
    · rw [ku k hfk, upd_s, upd_o (by decide), upd_o (by decide), upd_o (by decide), upd_o (by decide), upd_o (by decide), upd_o (by decide), upd_o (by decide), if_pos hfk, b7]
      exact ⟨⟨b0, b1, b2, b3, b4, b5, b6, rfl⟩, b8⟩
    · have : K2 (bu h k) = K (bu h k) := ko _ (by have := F.le (a := bu h k) (by omega); omega) (by omega) (fun f z y => hfk (by rw [z, row_bui R13 hk1 (hf f z) y]))
      rw [this, if_neg hfk, Int32.add_zero]
      exact ⟨⟨b0, b1, b2, b3, b4, b5, b6, b7⟩, b8⟩
  · intro r hr2
    rw [m40, m41, m42, m43, m44]
    by_cases hrn : r = nr
    · subst hrn
      rw [rdn, upd_s, upd_s, upd_s, upd_s, upd_s, eb3]
      refine ⟨⟨by rw [kb0.1]; exact C2.2.2.2.2.2.1.2.symm, kb0.2.1, kb0.2.2.1, kb0.2.2.2⟩, ⟨c, hc, rfl⟩, ?_⟩
      cases hw : w with
      | none => exact Or.inl ⟨rfl, rfl⟩
      | some f => exact Or.inr ⟨f, hf f hw, rfl, by rw [bu2]; rfl⟩
    · have hr3 : r < nr := by omega
      have q := row_rd R15 hr3
      obtain ⟨b1, b2, b3⟩ := C4 r hr3
      rw [rd2 r hr3, upd_o hrn, upd_o hrn, upd_o hrn, upd_o hrn, upd_o hrn, kk _ q.2.2 (by omega) (by omega), erd r 3 hr3, if_neg (by omega)]
      simp only [bu2]
      exact ⟨b1, b2, b3⟩
  · unfold Clk
    generalize readM m nr (nI c) (oI w) v 43 = Y at mk mn ⊢
    refine ⟨fun r hr2 => ?_, fun k hk1 => ?_⟩
    · by_cases hrn : r = nr
      · subst hrn
        rw [rdn, mn]
        cases w with
        | none => exact Or.inl ⟨rfl, by rw [eb5]; rfl⟩
        | some f =>
          refine Or.inr ⟨by rw [oI_s, ne_eq, nI_nm1 (by have := hf f rfl; omega)]; exact id, ?_, ?_⟩
          · rw [eb5, oI_s, lby_congr mk]
            show Option.map (rd h) (lby (m 43) (nI f) r) = _
            cases hl : lby (m 43) (nI f) r with
            | none => rfl
            | some l => exact congrArg some (rd2 l (lby_some hl).1).symm
          · rw [eb6]
            have : nby Y (oI (some f)) r (r + 1) = none := by
              cases hq : nby Y (oI (some f)) r (r + 1) with
              | none => rfl
              | some k => have := nby_some hq; omega
            rw [this]; rfl
      · have hr3 : r < nr := by omega
        rw [rd2 r hr3, mk r hr3, erd r 5 hr3, if_neg (by omega), erd r 6 hr3]
        rcases C5.1 r hr3 with ⟨q1, q2⟩ | ⟨q1, q2, q3⟩
        · exact Or.inl ⟨q1, q2⟩
        · refine Or.inr ⟨q1, ?_, ?_⟩
          · rw [q2, lby_congr (fun k hk1 => mk k (by omega))]
            cases hl : lby (m 43) (m 43 r) r with
            | none => rfl
            | some l => exact congrArg some (rd2 l (by have := (lby_some hl).1; omega)).symm
          · have hN1 : nby Y (m 43 r) r (nr + 1) = match nby (m 43) (m 43 r) r nr with
              | some k => some k
              | none => if r < nr ∧ oI w = m 43 r then some nr else none := by
              show (match nby Y (m 43 r) r nr with
                | some k => some k
                | none => if r < nr ∧ Y nr = m 43 r then some nr else none) = _
              rw [nby_congr mk, mn]
            rw [hN1]
            by_cases hbd : (w.bind fun f => lby (m 43) (nI f) nr) = some r
            · rw [if_pos ⟨rfl, hbd⟩]
              cases w with
              | none => cases hbd
              | some f =>
                have hl : lby (m 43) (nI f) nr = some r := hbd
                obtain ⟨l1, l2, l3⟩ := lby_some hl
                have hQ : nby (m 43) (m 43 r) r nr = none := by
                  cases hq : nby (m 43) (m 43 r) r nr with
                  | none => rfl
                  | some k =>
                    have := nby_some hq
                    exact absurd (this.2.2.trans l2) (l3 k this.1 this.2.1)
                rw [hQ]
                simp only
                rw [if_pos ⟨hr3, by rw [oI_s, l2]⟩]
                exact congrArg some rdn.symm
            · rw [if_neg (fun z => hbd z.2), q3]
              cases hQ : nby (m 43) (m 43 r) r nr with
              | some k => exact congrArg some (rd2 k (nby_some hQ).2.1).symm
              | none =>
                simp only
                rw [if_neg]
                · rfl
                · rintro ⟨-, z⟩
                  cases w with
                  | none => exact q1 z.symm
                  | some f =>
                    apply hbd
                    show lby (m 43) (nI f) nr = some r
                    rw [oI_s] at z
                    cases hl : lby (m 43) (nI f) nr with
                    | none => exact absurd z.symm (lby_none hl r hr3)
                    | some l =>
                      obtain ⟨l1, l2, l3⟩ := lby_some hl
                      by_cases e1 : l = r
                      · rw [e1]
                      · by_cases e2 : r < l
                        · exact absurd (l2.trans z) (nby_none hQ l e2 l1)
                        · exact absurd z.symm (l3 r (by omega) hr3)
    · rw [bu2, ebu k 8 hk1]
      show _ = Option.map (rd h2) (if Y nr = nI k then some nr else lby Y (nI k) nr)
      rw [mn]
      by_cases q : w = some k
      · rw [if_pos ⟨rfl, q⟩, if_pos ((oI_eq oin (by omega)).mpr q)]
        exact congrArg some rdn.symm
      · rw [if_neg (fun z => q z.2), if_neg (fun z => q ((oI_eq oin (by omega)).mp z)), C5.2 k hk1, lby_congr mk]
        cases hl : lby (m 43) (nI k) nr with
        | none => rfl
        | some l => exact congrArg some (rd2 l (lby_some hl).1).symm
  · exact C6.fr (fun a ha => by
      have : ∀ a ∈ [17, 18, 19], a < 22 ∧ a ≠ 14 := by decide
      exact kc a (this a ha).1 (this a ha).2) (fun a ha => readM_o (by
      have : ∀ a ∈ [36, 37, 38, 39], a ∉ [22, 40, 41, 42, 43, 44] := by decide
      exact this a ha)) (by rw [kc 16 (by decide) (by decide)]) (readM_22 (by decide))
  · refine ⟨fun s hs => ?_, fun j h1 h3 => by rw [readM_o (by decide)]; exact C7.2 j h1 h3⟩
    have q := row_se R20 hs
    have q2 := (RS.1 s hs).1
    have := C7.1 s hs
    rw [se2, ca2 s hs, kk _ q.2.2 (by omega) (by omega), kk _ q2.2.2.2 (by omega) (by omega), readM_o (by decide), readM_o (by decide)]
    exact this
  · intro p hp
    have q := row_pa R21 hp
    have := C8 p hp
    rw [pa2, kk _ q.2.2 (by omega) (by omega), readM_o (by decide), readM_o (by decide), readM_o (by decide)]
    exact this
  · unfold Cco at C9 ⊢
    rw [hc2, hs2]; omega

/-! a reading more, in the law too -/
def rdM (M : Nat → Nat → Int32) (nr d c b : Nat) (v : Int32) : Nat → Nat → Int32 := upw (upw (upw (upw M 30 (upd (M 30) nr (nI (64 * d + c)))) 31 (upd (M 31) nr v)) 32 (upd (M 32) nr (nI b))) 37 (upd (M 37) 5 (nI (nr + 1)))
theorem s_lreads {h : MH} {K M : Nat → Nat → Int32} {nr d c b : Nat} {v : Int32} (F : Fix h) (hnr : nr < 64) (h5 : M 37 5 = nI nr) (h0 : M 37 0 = nI d) : M_L_reads (nI c) (nI b) v (some 30) (some 31) (some 32) (some 37) (st h K M) = rtV (st h K (rdM M nr d c b v)) := by
  unfold M_L_reads
  rw [rq5 F, h5, rq0 F, h0, x_bnd, show (64 : Int32) * nI d = nI (64 * d) from pk_mul 64 d, x_bnd, nI_add, w30 F hnr, rq5 F, upw_o (show (37 : Nat) ≠ 30 by decide), h5, w31 F hnr, upw_o (show (31 : Nat) ≠ 30 by decide), rq5 F, upw_o (show (37 : Nat) ≠ 31 by decide), upw_o (show (37 : Nat) ≠ 30 by decide), h5, w32 F hnr, upw_o (show (32 : Nat) ≠ 31 by decide), upw_o (show (32 : Nat) ≠ 30 by decide), rq5 F, upw_o (show (37 : Nat) ≠ 32 by decide), upw_o (show (37 : Nat) ≠ 31 by decide), upw_o (show (37 : Nat) ≠ 30 by decide), h5, x_bnd, nIs, wq5 F, upw_o (show (37 : Nat) ≠ 32 by decide), upw_o (show (37 : Nat) ≠ 31 by decide), upw_o (show (37 : Nat) ≠ 30 by decide)]
  rfl
def bw (w : Option Nat) : Nat := match w with
  | none => 0
  | some f => f + 1
theorem rdM_o {M : Nat → Nat → Int32} {nr d c b a : Nat} {v : Int32} (h : a ∉ [30, 31, 32, 37]) : rdM M nr d c b v a = M a := by
  simp only [List.mem_cons, List.not_mem_nil, or_false, not_or] at h
  unfold rdM
  simp [upw, h]
theorem rdM_37 {M : Nat → Nat → Int32} {nr d c b j : Nat} {v : Int32} (h : j ≠ 5) : rdM M nr d c b v 37 j = M 37 j := by
  unfold rdM
  rw [upw_s, upd_o h]
theorem rdM_r {M : Nat → Nat → Int32} {nr d c b : Nat} {v : Int32} : rdM M nr d c b v 30 = upd (M 30) nr (nI (64 * d + c)) ∧ rdM M nr d c b v 31 = upd (M 31) nr v ∧ rdM M nr d c b v 32 = upd (M 32) nr (nI b) ∧ rdM M nr d c b v 37 5 = nI (nr + 1) := by
  unfold rdM
  refine ⟨?_, ?_, ?_, ?_⟩
  · simp [upw]
  · simp [upw]
  · simp [upw]
  · rw [upw_s, upd_s]
theorem Abs.read {g M : Nat → Nat → Int32} {nb nr ns nsm nst d c x : Nat} {v : Int32} {w : Option Nat} (A : Abs g M nb nr ns nsm nst d) (hg : g 22 1 = nI d) (hc : c < 60) (hw : ∀ f, w = some f → f < nb) (hv : v = nI x - 50) (hx : x ≤ V0 d + 100) : Abs (readM g nr (nI c) (oI w) v) (rdM M nr d c (bw w) v) nb (nr + 1) ns nsm nst d := by
  obtain ⟨A1, A2, A3, A4, A5, A6, A7, A8⟩ := A
  have go : ∀ a, a ∉ [22, 40, 41, 42, 43, 44] → readM g nr (nI c) (oI w) v a = g a := fun a ha => readM_o ha
  have mo : ∀ a, a ∉ [30, 31, 32, 37] → rdM M nr d c (bw w) v a = M a := fun a ha => rdM_o ha
  have mq : ∀ j, j ≠ 5 → rdM M nr d c (bw w) v 37 j = M 37 j := fun j hj => rdM_37 hj
  obtain ⟨g40, g41, g42, g43, g44⟩ := readM_r (m := g) (nr := nr) (c := nI c) (b := oI w) (v := v)
  obtain ⟨m30, m31, m32, m5⟩ := rdM_r (M := M) (nr := nr) (d := d) (c := c) (b := bw w) (v := v)
  refine ⟨?_, ?_, ?_, ?_, ?_, ?_, ?_, ?_⟩
  · rw [go 23 (by decide), go 24 (by decide), mo 22 (by decide)]; exact A1
  · rw [go 26 (by decide), go 27 (by decide), mo 23 (by decide), mo 24 (by decide), mo 25 (by decide), mo 26 (by decide)]; exact A2
  · refine ⟨fun y hy => ?_, ?_, ?_⟩
    · rw [mq _ (by omega), go 25 (by decide)]; exact A3.1 y hy
    · rw [go 25 (by decide)]; exact A3.2.1
    · rw [mq 1 (by decide), readM_22 (by decide)]; exact A3.2.2
  · rw [go 30 (by decide), go 31 (by decide), go 32 (by decide), go 33 (by decide), go 34 (by decide), go 35 (by decide), mo 27 (by decide)]; exact A4
  · intro r hr1
    rw [g40, g41, g42, g43, g44, m30, m31, m32]
    by_cases e : r = nr
    · subst e
      rw [upd_s, upd_s, upd_s, upd_s, upd_s, upd_s, upd_s, upd_s]
      refine ⟨d, c, bw w, 0, x, ⟨Nat.le_refl _, hc, by decide, hx⟩, ⟨hg, rfl, hv, rfl⟩, ⟨rfl, rfl, rfl⟩, ?_⟩
      cases w with
      | none => exact Or.inl ⟨rfl, rfl⟩
      | some f => exact Or.inr ⟨f, hw f rfl, rfl, rfl⟩
    · rw [upd_o e, upd_o e, upd_o e, upd_o e, upd_o e, upd_o e, upd_o e, upd_o e]
      exact A5 r (by omega)
  · rw [go 23 (by decide), go 46 (by decide), mo 33 (by decide), mo 34 (by decide)]; exact A6
  · rw [go 36 (by decide), go 37 (by decide), go 38 (by decide), go 39 (by decide), mo 28 (by decide), mo 29 (by decide)]; exact A7
  · obtain ⟨⟨q0, q2, q3, q4, q5, q6⟩, ⟨q7, q8⟩, q9⟩ := A8
    refine ⟨⟨?_, ?_, ?_, ?_, m5, ?_⟩, ⟨?_, ?_⟩, fun s hs => ?_⟩
    · rw [mq 0 (by decide)]; exact q0
    · rw [mq 2 (by decide)]; exact q2
    · rw [mq 3 (by decide)]; exact q3
    · rw [mq 4 (by decide)]; exact q4
    · rw [mq 6 (by decide)]; exact q6
    · rw [mq 7 (by decide), readM_22 (by decide)]; exact q7
    · rw [readM_22 (by decide)]; exact q8
    · rw [mq _ (by omega), go 45 (by decide)]; exact q9 s hs
theorem keep_ok {h : MH} {K g : Nat → Nat → Int32} {B nb nr ns np nsm d c : Nat} {S : STy} {v : Int32} {w : Option Nat} (R : Rel h K g B nb nr ns np nsm d S) (hr1 : nr < 100) (hc : c < 60) (hw : ∀ f, w = some f → f < nb) : ∃ h2 K2, (∀ mm, M_X2_keep (some 14) (nI d) (nI c) v (w.map (bu h)) (st h K mm) = rtV (st h2 K2 mm)) ∧ Rel h2 K2 (readM g nr (nI c) (oI w) v) B nb (nr + 1) ns np nsm d S ∧ (∀ k, k < nb → bu h2 k = bu h k ∧ hk h2 (bu h k) = 0) ∧ (∀ a, a < 22 → a ≠ 14 → K2 a = K a) := by
  have F := R.1.1
  have R13 := R.1.2.2.1
  have h14 : K 14 1 = nI nr := R.2.2.1.2.2.2.1.1
  have h50 := F.2.2.1
  cases w with
  | none =>
    refine ⟨kpH h nr none, kpK K (hn h + 1) (nI d) (nI c) v, fun mm => s_keepN F hr1 h14, keptN R hr1 hc, fun k hk1 => ?_, fun a ha h14 => kpK_o (by omega) h14⟩
    have q := row_bu R13 hk1
    have := F.le (a := bu h k) (by omega)
    refine ⟨congrArg (fun z => Option.getD z 0) (kpH_o (by omega) (by omega)), ?_⟩
    rw [((kpH_f F).1.2 _ this).1]; exact q.2.1
  | some f =>
    have hfn := hw f rfl
    have qf := row_bu R13 hfn
    have hul := F.le (a := bu h f) (by omega)
    have lk : ∀ a, hr h (bu h f) 8 = some a → 37 < a ∧ hk h a = 4 ∧ a ≤ hn h := fun a z => lat_k F R.1.2.2.2.1 R.2.2.2.2.2.1 hfn z
    refine ⟨chH (kpH h nr (some (bu h f))) (hn h + 1) (bu h f), chK (kpK K (hn h + 1) (nI d) (nI c) v) (bu h f), fun mm => s_keepS F hr1 h14 qf.2.1 qf.2.2 (fun l z => (lk l z).2.1), keptS R hr1 hc hfn, fun k hk1 => ?_, fun a ha h14 => by unfold chK; rw [upw_o (by omega), kpK_o (by omega) h14]⟩
    have q := row_bu R13 hk1
    have := F.le (a := bu h k) (by omega)
    refine ⟨congrArg (fun z => Option.getD z 0) ?_, ?_⟩
    · have eL : hr (kpH h nr (some (bu h f))) (bu h f) 8 = hr h (bu h f) 8 := kpH_o (by omega) (by omega)
      rw [chH_r, eL, if_neg (by omega), if_neg (fun z => by have := lk _ z.1; omega), if_neg (by omega), kpH_o (by omega) (by omega)]
    · rw [chH_k.1, ((kpH_f F).1.2 _ this).1]; exact q.2.1
/-! a float's field, in the law too -/
theorem LFl.s0 {r30 r31 r32 r33 r34 r35 f : Nat → Int32} {nb d k : Nat} {v : Int32} (L : LFl r30 r31 r32 r33 r34 r35 f nb d) (_hk1 : k < nb) : LFl (upd r30 k v) r31 r32 r33 r34 r35 (upd f (8 * k) v) nb d := by
  refine ⟨fun i hi => ?_, fun i h1 h2 => by rw [upd_o (by omega)]; exact L.2 i h1 h2⟩
  obtain ⟨⟨a0, a1, a2, a3, a4, a5⟩, b⟩ := L.1 i hi
  rw [upd_o (show 8 * i + 1 ≠ 8 * k by omega), upd_o (show 8 * i + 2 ≠ 8 * k by omega), upd_o (show 8 * i + 3 ≠ 8 * k by omega), upd_o (show 8 * i + 4 ≠ 8 * k by omega), upd_o (show 8 * i + 5 ≠ 8 * k by omega)]
  by_cases e : i = k
  · subst e; rw [upd_s, upd_s]; exact ⟨⟨rfl, a1, a2, a3, a4, a5⟩, b⟩
  · rw [upd_o (show 8 * i ≠ 8 * k by omega), upd_o e]; exact ⟨⟨a0, a1, a2, a3, a4, a5⟩, b⟩
theorem LFl.s2 {r30 r31 r32 r33 r34 r35 f : Nat → Int32} {nb d k : Nat} {v : Int32} (L : LFl r30 r31 r32 r33 r34 r35 f nb d) (_hk1 : k < nb) : LFl r30 r31 (upd r32 k v) r33 r34 r35 (upd f (8 * k + 2) v) nb d := by
  refine ⟨fun i hi => ?_, fun i h1 h2 => by rw [upd_o (by omega)]; exact L.2 i h1 h2⟩
  obtain ⟨⟨a0, a1, a2, a3, a4, a5⟩, b⟩ := L.1 i hi
  rw [upd_o (show 8 * i ≠ 8 * k + 2 by omega), upd_o (show 8 * i + 1 ≠ 8 * k + 2 by omega), upd_o (show 8 * i + 3 ≠ 8 * k + 2 by omega), upd_o (show 8 * i + 4 ≠ 8 * k + 2 by omega), upd_o (show 8 * i + 5 ≠ 8 * k + 2 by omega)]
  by_cases e : i = k
  · subst e; rw [upd_s, upd_s]; exact ⟨⟨a0, a1, rfl, a3, a4, a5⟩, b⟩
  · rw [upd_o (show 8 * i + 2 ≠ 8 * k + 2 by omega), upd_o e]; exact ⟨⟨a0, a1, a2, a3, a4, a5⟩, b⟩
theorem LFl.s3 {r30 r31 r32 r33 r34 r35 f : Nat → Int32} {nb d k : Nat} {v : Int32} (L : LFl r30 r31 r32 r33 r34 r35 f nb d) (_hk1 : k < nb) : LFl r30 r31 r32 (upd r33 k v) r34 r35 (upd f (8 * k + 3) v) nb d := by
  refine ⟨fun i hi => ?_, fun i h1 h2 => by rw [upd_o (by omega)]; exact L.2 i h1 h2⟩
  obtain ⟨⟨a0, a1, a2, a3, a4, a5⟩, b⟩ := L.1 i hi
  rw [upd_o (show 8 * i ≠ 8 * k + 3 by omega), upd_o (show 8 * i + 1 ≠ 8 * k + 3 by omega), upd_o (show 8 * i + 2 ≠ 8 * k + 3 by omega), upd_o (show 8 * i + 4 ≠ 8 * k + 3 by omega), upd_o (show 8 * i + 5 ≠ 8 * k + 3 by omega)]
  by_cases e : i = k
  · subst e; rw [upd_s, upd_s]; exact ⟨⟨a0, a1, a2, rfl, a4, a5⟩, b⟩
  · rw [upd_o (show 8 * i + 3 ≠ 8 * k + 3 by omega), upd_o e]; exact ⟨⟨a0, a1, a2, a3, a4, a5⟩, b⟩
theorem LFl.s5 {r30 r31 r32 r33 r34 r35 f : Nat → Int32} {nb d k : Nat} {v : Int32} (L : LFl r30 r31 r32 r33 r34 r35 f nb d) (hk1 : k < nb) (hv : ∃ y z, y ≤ V0 d + 100 ∧ z ≤ V0 d + 100 ∧ v = nI y - nI z) : LFl r30 r31 r32 r33 r34 (upd r35 k v) (upd f (8 * k + 5) v) nb d := by
  refine ⟨fun i hi => ?_, fun i h1 h2 => by rw [upd_o (by omega)]; exact L.2 i h1 h2⟩
  obtain ⟨⟨a0, a1, a2, a3, a4, a5⟩, b, b5⟩ := L.1 i hi
  rw [upd_o (show 8 * i ≠ 8 * k + 5 by omega), upd_o (show 8 * i + 1 ≠ 8 * k + 5 by omega), upd_o (show 8 * i + 2 ≠ 8 * k + 5 by omega), upd_o (show 8 * i + 3 ≠ 8 * k + 5 by omega), upd_o (show 8 * i + 4 ≠ 8 * k + 5 by omega)]
  by_cases e : i = k
  · subst e; rw [upd_s, upd_s]; exact ⟨⟨a0, a1, a2, a3, a4, rfl⟩, b, hv⟩
  · rw [upd_o (show 8 * i + 5 ≠ 8 * k + 5 by omega), upd_o e]; exact ⟨⟨a0, a1, a2, a3, a4, a5⟩, b, b5⟩
theorem Abs.f0 {g M : Nat → Nat → Int32} {nb nr ns nsm nst d k : Nat} {v : Int32} (A : Abs g M nb nr ns nsm nst d) (hk1 : k < nb) : Abs (upw g 30 (upd (g 30) k v)) (upw M 27 (upd (M 27) (8 * k) v)) nb nr ns nsm nst d := ⟨A.1, A.2.1, A.2.2.1, A.2.2.2.1.s0 hk1, A.2.2.2.2⟩
theorem Abs.f2 {g M : Nat → Nat → Int32} {nb nr ns nsm nst d k : Nat} {v : Int32} (A : Abs g M nb nr ns nsm nst d) (hk1 : k < nb) : Abs (upw g 32 (upd (g 32) k v)) (upw M 27 (upd (M 27) (8 * k + 2) v)) nb nr ns nsm nst d := ⟨A.1, A.2.1, A.2.2.1, A.2.2.2.1.s2 hk1, A.2.2.2.2⟩
theorem Abs.f3 {g M : Nat → Nat → Int32} {nb nr ns nsm nst d k : Nat} {v : Int32} (A : Abs g M nb nr ns nsm nst d) (hk1 : k < nb) : Abs (upw g 33 (upd (g 33) k v)) (upw M 27 (upd (M 27) (8 * k + 3) v)) nb nr ns nsm nst d := ⟨A.1, A.2.1, A.2.2.1, A.2.2.2.1.s3 hk1, A.2.2.2.2⟩
theorem Abs.f5 {g M : Nat → Nat → Int32} {nb nr ns nsm nst d k : Nat} {v : Int32} (A : Abs g M nb nr ns nsm nst d) (hk1 : k < nb) (hv : ∃ y z, y ≤ V0 d + 100 ∧ z ≤ V0 d + 100 ∧ v = nI y - nI z) : Abs (upw g 35 (upd (g 35) k v)) (upw M 27 (upd (M 27) (8 * k + 5) v)) nb nr ns nsm nst d := ⟨A.1, A.2.1, A.2.2.1, A.2.2.2.1.s5 hk1 hv, A.2.2.2.2⟩

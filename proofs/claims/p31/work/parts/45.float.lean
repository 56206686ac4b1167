/-! keep and reads -/
theorem kpH_r {h : MH} {nr : Nat} {x4 : Option Nat} (a j : Nat) : hr (kpH h nr x4) a j = if a = 15 ∧ j = nr then some (hn h + 1) else if a = hn h + 1 ∧ j = 3 then x4 else if a = hn h + 1 then none else hr h a j := rfl
theorem kpH_f {h : MH} {nr : Nat} {x4 : Option Nat} (F : Fix h) : Ext h (kpH h nr x4) ∧ Fix (kpH h nr x4) ∧ hk (kpH h nr x4) (hn h + 1) = 4 := by
  have h50 := F.2.2.1
  refine ⟨Ext.alc.tr (Ext.sR.tr Ext.sR), (F.alc.sR (RT_dyn (by omega))).sR (by decide), ?_⟩
  show hk (alc h 4 7) (hn h + 1) = 4
  rw [hk_alc, if_pos rfl]
theorem kpH_o {h : MH} {nr : Nat} {x4 : Option Nat} {a j : Nat} (h1 : a ≠ 15) (h2 : a ≠ hn h + 1) : hr (kpH h nr x4) a j = hr h a j := by
  rw [kpH_r, if_neg (fun z => h1 z.1), if_neg (fun z => h2 z.1), if_neg h2]
theorem kpH_15 {h : MH} {nr : Nat} {x4 : Option Nat} {j : Nat} (h2 : 15 ≠ hn h + 1) : hr (kpH h nr x4) 15 j = if j = nr then some (hn h + 1) else hr h 15 j := by
  rw [kpH_r]
  by_cases q : j = nr
  · rw [if_pos ⟨rfl, q⟩, if_pos q]
  · rw [if_neg (fun z => q z.2), if_neg (fun z => h2 z.1), if_neg h2, if_neg q]
theorem kpH_b {h : MH} {nr : Nat} {x4 : Option Nat} {j : Nat} (h2 : hn h + 1 ≠ 15) : hr (kpH h nr x4) (hn h + 1) j = if j = 3 then x4 else none := by
  rw [kpH_r, if_neg (fun z => h2 z.1)]
  by_cases q : j = 3
  · rw [if_pos ⟨rfl, q⟩, if_pos q]
  · rw [if_neg (fun z => q z.2), if_pos rfl, if_neg q]
theorem kpH_c {h : MH} {nr : Nat} {x4 : Option Nat} : CGyreWatchLaw_law_r6608_32e876.hc (kpH h nr x4) = CGyreWatchLaw_law_r6608_32e876.hc h + 1 ∧ hs (kpH h nr x4) = hs h + 7 ∧ hn (kpH h nr x4) = hn h + 1 := ⟨rfl, rfl, rfl⟩
theorem chH_r {h : MH} {b u : Nat} (a j : Nat) : hr (chH h b u) a j = if a = u ∧ j = 8 then some b else if hr h u 8 = some a ∧ j = 6 then some b else if a = b ∧ j = 5 then hr h u 8 else hr h a j := by
  unfold chH
  rw [hr_sR]
  by_cases q : a = u ∧ j = 8
  · rw [if_pos q, if_pos q]
  · rw [if_neg q, if_neg q]
    cases hl : hr h u 8 with
    | none =>
      rw [if_neg (by rintro ⟨z, -⟩; cases z)]
      rfl
    | some l =>
      show (if a = l ∧ j = 6 then _ else _) = _
      by_cases q2 : a = l ∧ j = 6
      · rw [if_pos q2, if_pos ⟨by rw [q2.1], q2.2⟩]
      · rw [if_neg q2, if_neg (fun z => q2 ⟨(Option.some.inj z.1).symm, z.2⟩)]
        rfl
theorem chH_k {h : MH} {b u : Nat} : hk (chH h b u) = hk h ∧ hl (chH h b u) = hl h ∧ hn (chH h b u) = hn h ∧ CGyreWatchLaw_law_r6608_32e876.hc (chH h b u) = CGyreWatchLaw_law_r6608_32e876.hc h ∧ hs (chH h b u) = hs h := by
  unfold chH
  cases hr h u 8 with
  | none => exact ⟨rfl, rfl, rfl, rfl, rfl⟩
  | some l => exact ⟨rfl, rfl, rfl, rfl, rfl⟩
theorem kpR_v {x1 x2 x3 : Int32} : kpR x1 x2 x3 0 = x1 ∧ kpR x1 x2 x3 1 = x2 ∧ kpR x1 x2 x3 2 = x3 ∧ kpR x1 x2 x3 4 = -1 := by
  unfold kpR
  refine ⟨?_, ?_, ?_, ?_⟩
  · rw [upd_o (by decide), upd_o (by decide), upd_s]
  · rw [upd_o (by decide), upd_s]
  · rw [upd_s]
  · rw [upd_o (by decide), upd_o (by decide), upd_o (by decide), upd_s]
theorem kpK_b {K : Nat → Nat → Int32} {b : Nat} {x1 x2 x3 : Int32} (h : b ≠ 14) : kpK K b x1 x2 x3 b = kpR x1 x2 x3 := by
  unfold kpK; rw [upw_o h, upw_s]
theorem kpK_14 {K : Nat → Nat → Int32} {b : Nat} {x1 x2 x3 : Int32} : kpK K b x1 x2 x3 14 = upd (K 14) 1 (K 14 1 + 1) := by
  unfold kpK; rw [upw_s]
theorem kpK_o {K : Nat → Nat → Int32} {a b : Nat} {x1 x2 x3 : Int32} (h1 : a ≠ b) (h2 : a ≠ 14) : kpK K b x1 x2 x3 a = K a := by
  unfold kpK; rw [upw_o h2, upw_o h1]
theorem keptN {h : MH} {K m : Nat → Nat → Int32} {B nb nr ns np nsm d c : Nat} {S : STy} {v : Int32} (R : Rel h K m B nb nr ns np nsm d S) (hr1 : nr < 100) (hc : c < 60) : Rel (kpH h nr none) (kpK K (hn h + 1) (nI d) (nI c) v) (readM m nr (nI c) (oI none) v) B nb (nr + 1) ns np nsm d S := by
  have F := R.1.1
  have h50 := F.2.2.1
  obtain ⟨E, F2, kb⟩ := kpH_f (nr := nr) (x4 := none) F
  have h14 : K 14 1 = nI nr := R.2.2.1.2.2.2.1.1
  refine kept (w := none) R hr1 hc (fun f q => by cases q) E F2 kb kpH_c.1 kpH_c.2.1 (fun j => kpH_15 (by omega)) (fun a j ha h15 _ => kpH_o h15 (by omega)) ?_ ?_ ?_ ?_ ?_ ?_ (by rw [kpK_14, h14]) (fun a h1 h2 _ => kpK_o h1 h2) (fun f q => by cases q)
  · intro r j hr2
    have q := row_rd R.1.2.2.2.1 hr2
    have := F.le (a := rd h r) (by omega)
    rw [kpH_o (by omega) (by omega), if_neg (by rintro ⟨-, z⟩; cases z)]
  · intro k j hk1
    have q := row_bu R.1.2.2.1 hk1
    have := F.le (a := bu h k) (by omega)
    rw [kpH_o (by omega) (by omega), if_neg (by rintro ⟨-, z⟩; cases z)]
  · rw [kpH_b (by omega), if_pos rfl]; rfl
  · rw [kpH_b (by omega), if_neg (by omega)]; rfl
  · rw [kpH_b (by omega), if_neg (by omega)]
  · rw [kpK_b (by omega)]; exact kpR_v
/-- the newest reading of a float -/
theorem lat_k {h : MH} {m : Nat → Nat → Int32} {nb nr f a : Nat} (F : Fix h) (R15 : Row h 15 100 4 nr) (C5 : Clk h m nb nr) (hf : f < nb) (z : hr h (bu h f) 8 = some a) : 37 < a ∧ hk h a = 4 ∧ a ≤ hn h := by
  rw [C5.2 f hf] at z
  cases hq : lby (m 43) (nI f) nr with
  | none => rw [hq] at z; cases z
  | some r =>
    rw [hq] at z
    have : rd h r = a := Option.some.inj z
    have q := row_rd R15 (lby_some hq).1
    rw [this] at q
    exact ⟨q.2.2, q.2.1, F.le (by omega)⟩
theorem keptS {h : MH} {K m : Nat → Nat → Int32} {B nb nr ns np nsm d c f : Nat} {S : STy} {v : Int32} (R : Rel h K m B nb nr ns np nsm d S) (hr1 : nr < 100) (hc : c < 60) (hf : f < nb) : Rel (chH (kpH h nr (some (bu h f))) (hn h + 1) (bu h f)) (chK (kpK K (hn h + 1) (nI d) (nI c) v) (bu h f)) (readM m nr (nI c) (oI (some f)) v) B nb (nr + 1) ns np nsm d S := by
  have F := R.1.1
  have R13 := R.1.2.2.1
  have R15 := R.1.2.2.2.1
  have C5 := R.2.2.2.2.2.1
  have h50 := F.2.2.1
  have h14 : K 14 1 = nI nr := R.2.2.1.2.2.2.1.1
  obtain ⟨E, F2, kb⟩ := kpH_f (nr := nr) (x4 := some (bu h f)) F
  have qf := row_bu R13 hf
  have hul := F.le (a := bu h f) (by omega)
  have lk : ∀ a, hr h (bu h f) 8 = some a → 37 < a ∧ hk h a = 4 ∧ a ≤ hn h := fun a z => lat_k F R15 C5 hf z
  have eL : hr (kpH h nr (some (bu h f))) (bu h f) 8 = hr h (bu h f) 8 := kpH_o (by omega) (by omega)
  have hL8 := C5.2 f hf
  obtain ⟨ck, cl, cn, cc, cs⟩ := chH_k (h := kpH h nr (some (bu h f))) (b := hn h + 1) (u := bu h f)
  have hrC : ∀ a j, hr (chH (kpH h nr (some (bu h f))) (hn h + 1) (bu h f)) a j = if a = bu h f ∧ j = 8 then some (hn h + 1) else if hr h (bu h f) 8 = some a ∧ j = 6 then some (hn h + 1) else if a = hn h + 1 ∧ j = 5 then hr h (bu h f) 8 else hr (kpH h nr (some (bu h f))) a j := by
    intro a j
    rw [chH_r, eL]
  clear hL8
  have E2 : Ext h (chH (kpH h nr (some (bu h f))) (hn h + 1) (bu h f)) := by
    refine ⟨by rw [cn]; exact E.1, fun a ha => ?_⟩
    rw [ck, cl]; exact E.2 a ha
  have FC : Fix (chH (kpH h nr (some (bu h f))) (hn h + 1) (bu h f)) := by
    refine ⟨fun a ha => by rw [ck, cl]; exact F2.1 a ha, fun q hq => ?_, by rw [cn]; exact F2.2.2.1, fun a ha => by rw [ck]; rw [cn] at ha; exact F2.2.2.2 a ha⟩
    have h51 : ∀ q ∈ RT, q.1 < 38 := by decide
    have := h51 q hq
    rw [hrC, if_neg (by omega), if_neg (fun z => by have := (lk q.1 z.1).1; omega), if_neg (by omega)]
    exact F2.2.1 q hq
  generalize chH (kpH h nr (some (bu h f))) (hn h + 1) (bu h f) = G at *
  refine kept (w := some f) R hr1 hc (fun g q => by cases q; exact hf) E2 FC (by rw [ck]; exact kb) (by rw [cc]; exact kpH_c.1) (by rw [cs]; exact kpH_c.2.1) ?_ ?_ ?_ ?_ ?_ ?_ ?_ ?_ ?_ ?_ ?_
  · intro j
    rw [hrC, if_neg (by omega), if_neg (fun z => by have := (lk 15 z.1).1; omega), if_neg (by omega), kpH_15 (by omega)]
  · intro a j ha h15 hor
    rw [hrC, if_neg (by rintro ⟨z, -⟩; rw [z] at hor; omega), if_neg (fun z => by have := lk a z.1; omega), if_neg (by omega), kpH_o h15 (by omega)]
  · intro r j hr2
    have q := row_rd R15 hr2
    have := F.le (a := rd h r) (by omega)
    rw [hrC, if_neg (by rintro ⟨z, -⟩; rw [z] at q; omega)]
    have hiff : hr h (bu h f) 8 = some (rd h r) ↔ ((some f).bind fun f => lby (m 43) (nI f) nr) = some r := by
      rw [C5.2 f hf]
      show Option.map (rd h) (lby (m 43) (nI f) nr) = _ ↔ lby (m 43) (nI f) nr = some r
      cases hq : lby (m 43) (nI f) nr with
      | none => constructor <;> (intro z; cases z)
      | some r2 =>
        constructor
        · intro z
          rw [row_rdi R15 (lby_some hq).1 hr2 (Option.some.inj z)]
        · intro z; rw [Option.some.inj z]; rfl
    by_cases qq : j = 6 ∧ ((some f).bind fun f => lby (m 43) (nI f) nr) = some r
    · rw [if_pos ⟨hiff.mpr qq.2, qq.1⟩, if_pos qq]
    · rw [if_neg (fun z => qq ⟨z.2, hiff.mp z.1⟩), if_neg qq, if_neg (by omega), kpH_o (by omega) (by omega)]
  · intro k j hk1
    have q := row_bu R13 hk1
    have := F.le (a := bu h k) (by omega)
    rw [hrC]
    by_cases qq : j = 8 ∧ some f = some k
    · have : f = k := Option.some.inj qq.2
      rw [if_pos ⟨by rw [this], qq.1⟩, if_pos qq]
    · rw [if_neg (fun z => qq ⟨z.2, by rw [row_bui R13 hk1 hf z.1]⟩), if_neg (fun z => by have := lk _ z.1; omega), if_neg (by omega), kpH_o (by omega) (by omega), if_neg qq]
  · rw [hrC, if_neg (by omega), if_neg (by omega), if_neg (by omega), kpH_b (by omega), if_pos rfl]; rfl
  · rw [hrC, if_neg (by omega), if_neg (by omega), if_pos ⟨rfl, rfl⟩, C5.2 f hf]; rfl
  · rw [hrC, if_neg (by omega), if_neg (fun z => by have := lk _ z.1; omega), if_neg (by omega), kpH_b (by omega), if_neg (by omega)]
  · unfold chK
    rw [upw_o (by omega), kpK_b (by omega)]; exact kpR_v
  · unfold chK
    rw [upw_o (by omega), kpK_14, h14]
  · intro a h1 h2 h3
    unfold chK
    rw [upw_o (h3 f rfl)]; exact kpK_o h1 h2
  · intro g hg
    cases hg
    unfold chK
    rw [upw_s, kpK_o (by omega) (by omega)]

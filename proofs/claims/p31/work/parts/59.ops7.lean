/-! a float is laid -/
theorem thM_thM {m : Nat → Nat → Int32} {s t : Int32} : upw (thM m s) 22 (upd (thM m s 22) 0 t) = thM m t := by
  unfold thM
  rw [upw_w, upw_s, upd_upd]
theorem cnt_0 {by1 : Nat → Int32} {b : Int32} {n : Nat} (h : ∀ k, k < n → by1 k ≠ b) : cnt by1 b n = 0 := by
  induction n with
  | zero => rfl
  | succ n ih =>
    show cnt by1 b n + (if by1 n = b then 1 else 0) = 0
    rw [ih (fun k hk => h k (by omega)), if_neg (h n (by omega))]; rfl
theorem lby_0 {by1 : Nat → Int32} {b : Int32} {n : Nat} (h : ∀ k, k < n → by1 k ≠ b) : lby by1 b n = none := by
  cases q : lby by1 b n with
  | none => rfl
  | some l => have := lby_some q; exact absurd this.2.1 (h l this.1)
def buR (nb c its po mo : Int32) : Nat → Int32 := upd (upd (upd (upd (upd (upd (fun _ => 0) 0 nb) 3 c) 1 its) 4 its) 5 po) 2 mo
theorem buR_v {nb c its po mo : Int32} : buR nb c its po mo 0 = nb ∧ buR nb c its po mo 1 = its ∧ buR nb c its po mo 2 = mo ∧ buR nb c its po mo 3 = c ∧ buR nb c its po mo 4 = its ∧ buR nb c its po mo 5 = po ∧ buR nb c its po mo 6 = 0 ∧ buR nb c its po mo 7 = 0 := by
  unfold buR
  refine ⟨?_, ?_, ?_, ?_, ?_, ?_, ?_, ?_⟩ <;> simp [upd]
theorem rng1 {x : Int32} {a n : Nat} (hn : n < 1000000) (ha : a < 1000000) (h0 : nI a ≤ x) (h1 : x ≤ nI n) : ∃ j, a ≤ j ∧ j ≤ n ∧ x = nI j := by
  obtain ⟨j, hj, rfl⟩ := nI_rng hn (by rw [i_le] at h0 ⊢; rw [nI_toInt (by omega)] at h0; rw [show (0 : Int32).toInt = 0 from by decide]; omega) h1
  exact ⟨j, (nI_leI (by omega) (by omega)).mp h0, hj, rfl⟩
def layM (m : Nat → Nat → Int32) (nb : Nat) (c its po mo : Int32) : Nat → Nat → Int32 := upw (upw (upw (upw (upw (upw (thM m 0) 30 (upd (m 30) nb c)) 31 (upd (m 31) nb its)) 32 (upd (m 32) nb its)) 33 (upd (m 33) nb po)) 34 (upd (m 34) nb mo)) 22 (upd (thM m 0 22) 10 (nI (nb + 1)))
theorem s_layNew {h : MH} {K m : Nat → Nat → Int32} {nb : Nat} {c its po mo : Int32} (F : Fix h) (hnb : nb < 8) : (nwO (st h K m) 0 fun r14 h15 => nnl r14 <| calV (M_X0_init r14 (nI nb) c its po mo h15) fun h16 => wrR h16 (some 13) (nI nb) r14 fun h17 => bnd (nI nb + (1 : Int32)) fun z18 => pfI h17 (some 1) 8 6 z18 fun h19 => rtI (nI nb) h19) = rtI (nI nb) (st (sR (alc h 0 9) 13 nb (some (hn h + 1))) (upw (upw K (hn h + 1) (buR (nI nb) c its po mo)) 1 (upd (K 1) 6 (nI (nb + 1)))) m) := by
  have h50 := F.2.2.1
  have k1 : hk (alc h 0 (nF 0)) (hn h + 1) = 0 := by rw [hk_alc, if_pos rfl]
  have F1 : Fix (alc h 0 (nF 0)) := F.alc
  have F2 : Fix (sR (alc h 0 (nF 0)) 13 nb (some (hn h + 1))) := F1.sR (by decide)
  have hb : cA (hn h + 1) := Or.inr (by omega)
  rw [K_nw h50]
  unfold M_X0_init
  rw [show nnl (some (hn h + 1)) = id from rfl]
  show calV (id (pfI _ _ 0 0 _ _)) _ = _
  simp only [id]
  rw [K_pf k1 hb, K_pf k1 hb, K_pf k1 hb, K_pf k1 hb, K_pf k1 hb, K_pf k1 hb, x_rtV, K_wR (Fk13 F1) ⟨by decide, by decide⟩ (Fl13 F1) hnb (by decide) k1, x_bnd, nIs, p1 F2]
  simp only [upw_w, upw_s]
  rw [upw_o (show (1 : Nat) ≠ hn h + 1 by omega)]
  rfl
theorem laid {h : MH} {K m : Nat → Nat → Int32} {B nb nr ns np nsm d c its po : Nat} {mo : Int32} {S : STy} (R : Rel h K m B nb nr ns np nsm d S) (L : Cli m nb) (hnb : nb < 8) (hc : c < 60) (hi : 1 ≤ its ∧ its ≤ 20) (hp : 1 ≤ po ∧ po ≤ 100) : Rel (sR (alc h 0 9) 13 nb (some (hn h + 1))) (upw (upw K (hn h + 1) (buR (nI nb) (nI c) (nI its) (nI po) mo)) 1 (upd (K 1) 6 (nI (nb + 1)))) (layM m nb (nI c) (nI its) (nI po) mo) (B + 1) (nb + 1) nr ns np nsm d S ∧ Cli (layM m nb (nI c) (nI its) (nI po) mo) (nb + 1) := by
  have F := R.1.1
  have h50 := F.2.2.1
  obtain ⟨h1, hh1⟩ : ∃ h1, h1 = sR (alc h 0 9) 13 nb (some (hn h + 1)) := ⟨_, rfl⟩
  obtain ⟨K1, hK1⟩ : ∃ K1, K1 = upw (upw K (hn h + 1) (buR (nI nb) (nI c) (nI its) (nI po) mo)) 1 (upd (K 1) 6 (nI (nb + 1))) := ⟨_, rfl⟩
  obtain ⟨m1, hm1⟩ : ∃ m1, m1 = layM m nb (nI c) (nI its) (nI po) mo := ⟨_, rfl⟩
  rw [← hh1, ← hK1, ← hm1]
  have F1 : Fix (alc h 0 9) := F.alc
  have F2 : Fix h1 := by rw [hh1]; exact F1.sR (by decide)
  have E : Ext h h1 := by rw [hh1]; exact Ext.alc.tr Ext.sR
  have rr : ∀ a j, hr h1 a j = if a = 13 ∧ j = nb then some (hn h + 1) else if a = hn h + 1 then none else hr h a j := by intro a j; rw [hh1]; rfl
  have rO : ∀ a j, a ≤ hn h → a ≠ 13 → hr h1 a j = hr h a j := fun a j h1 h2 => by rw [rr, if_neg (by omega), if_neg (by omega)]
  have r13 : ∀ j, hr h1 13 j = if j = nb then some (hn h + 1) else hr h 13 j := fun j => by
    rw [rr]
    by_cases q : j = nb
    · rw [if_pos ⟨rfl, q⟩, if_pos q]
    · rw [if_neg (by omega), if_neg (by omega), if_neg q]
  have kO : ∀ a, a ≠ 1 → a ≠ hn h + 1 → K1 a = K a := fun a h1 h2 => by rw [hK1, upw_o h1, upw_o h2]
  have mO : ∀ a, a ∉ [22, 30, 31, 32, 33, 34] → m1 a = m a := fun a ha => by
    simp only [List.mem_cons, List.not_mem_nil, or_false, not_or] at ha
    rw [hm1]; unfold layM
    rw [upw_o ha.1, upw_o ha.2.2.2.2.2, upw_o ha.2.2.2.2.1, upw_o ha.2.2.2.1, upw_o ha.2.2.1, upw_o ha.2.1, thM_o ha.1]
  have m22 : ∀ j, j ≠ 10 → j ≠ 0 → m1 22 j = m 22 j := fun j hj h0 => by rw [hm1]; unfold layM; rw [upw_s, upd_o hj, thM_22 h0]
  have mR : m1 30 = upd (m 30) nb (nI c) ∧ m1 31 = upd (m 31) nb (nI its) ∧ m1 32 = upd (m 32) nb (nI its) ∧ m1 33 = upd (m 33) nb (nI po) ∧ m1 34 = upd (m 34) nb mo ∧ m1 22 10 = nI (nb + 1) := by
    rw [hm1]; unfold layM
    refine ⟨?_, ?_, ?_, ?_, ?_, ?_⟩ <;> simp [upw, upd]
  have kdyn : ∀ a, 37 < a → a ≤ hn h → K1 a = K a := fun a h1 h2 => kO a (by omega) (by omega)
  have rdyn : ∀ a j, 37 < a → a ≤ hn h → hr h1 a j = hr h a j := fun a j h1 h2 => rO a j h2 (by omega)
  obtain ⟨n1, n2, n3, n4, n5, n6⟩ := R.new (K1 := K1) (m1 := m1) E (fun k hk1 => by rw [r13, if_neg (by omega)]) (fun j => rO 15 j (by omega) (by omega)) (fun k _ => rO 20 k (by omega) (by omega)) (fun k _ => rO 21 k (by omega) (by omega)) rdyn kdyn (fun a ha => mO a (by simp at ha ⊢; omega))
  obtain ⟨⟨F, hN, R13, R15, R20, R21, RS⟩, C1, C2, C3, C4, C5, C6, C7, C8, C9⟩ := R
  have kb : hk h1 (hn h + 1) = 0 := by rw [hh1]; show hk (alc h 0 9) (hn h + 1) = 0; rw [hk_alc, if_pos rfl]
  have bn : bu h1 nb = hn h + 1 := by unfold bu; rw [r13, if_pos rfl]; rfl
  have eb : K1 (hn h + 1) = buR (nI nb) (nI c) (nI its) (nI po) mo := by rw [hK1, upw_o (by omega), upw_s]
  have nby0 : ∀ r, r < nr → m 43 r ≠ nI nb := by
    intro r hr1 z
    obtain ⟨-, -, x3⟩ := C4 r hr1
    rcases x3 with ⟨x3, -⟩ | ⟨f, f1, f2, -⟩
    · rw [x3, nI_m1n (by omega)] at z; exact z
    · rw [f2, nI_inj (by omega) (by omega)] at z; omega
  refine ⟨⟨⟨F2, ⟨by omega, hN.2.1, hN.2.2.1, hN.2.2.2⟩, R13.push F E r13 (by decide) kb (by omega), R15.ext F E (fun j => rO 15 j (by omega) (by omega)) (by decide), R20.ext F E (fun j => rO 20 j (by omega) (by omega)) (by decide), R21.ext F E (fun j => rO 21 j (by omega) (by omega)) (by decide), RS.ext R20 F E (fun j => rO 20 j (by omega) (by omega)) (fun s j hs => by
    have q := row_se R20 hs
    exact rdyn _ _ q.2.2 (F.le (by omega)))⟩, ?_, ?_, ?_, ?_, ?_, ?_, ?_, ?_, ?_⟩, ?_⟩
  · exact C1.fr (fun b hb => kO b (by simp at hb; omega) (by simp at hb; omega)) (fun b hb => mO b (by simp at hb ⊢; omega)) (m22 2 (by decide) (by decide))
  · obtain ⟨a1, a2, a3, a4, a6, a7, a8, a9, a10⟩ := C2
    unfold Cct
    rw [kO 14 (by decide) (by omega), kO 16 (by decide) (by omega), hK1, upw_s, upd_s, upd_o (show (8 : Nat) ≠ 6 by decide), upd_o (show (7 : Nat) ≠ 6 by decide), upd_o (show (9 : Nat) ≠ 6 by decide), m22 30 (by decide) (by decide), m22 33 (by decide) (by decide), m22 23 (by decide) (by decide), m22 20 (by decide) (by decide), m22 1 (by decide) (by decide), m22 29 (by decide) (by decide), mR.2.2.2.2.2]
    exact ⟨⟨rfl, rfl⟩, a2, a3, a4, a6, a7, a8, a9, a10⟩
  · refine ⟨fun k hk1 => ?_, fun k h1 h2 => by rw [mO 35 (by decide)]; exact C3.2 k (by omega) h2⟩
    rw [mR.1, mR.2.1, mR.2.2.1, mR.2.2.2.1, mR.2.2.2.2.1, mO 35 (by decide), mO 43 (by decide)]
    by_cases q : k = nb
    · subst q
      obtain ⟨v0, v1, v2, v3, v4, v5, v6, v7⟩ := buR_v (nb := nI k) (c := nI c) (its := nI its) (po := nI po) (mo := mo)
      rw [bn, eb, upd_s, upd_s, upd_s, upd_s, upd_s, cnt_0 nby0, C3.2 k (Nat.le_refl _) hnb]
      exact ⟨⟨v0, v1, v2, v3, v4, v5, v6, v7⟩, ⟨c, hc, rfl⟩, ⟨its, by omega, hi.2, rfl⟩, po, hp.2, rfl⟩
    · have hk2 : k < nb := by omega
      have qq := row_bu R13 hk2
      rw [n1 k hk2, kdyn _ qq.2.2 (F.le (by omega)), upd_o q, upd_o q, upd_o q, upd_o q, upd_o q]
      exact C3.1 k hk2
  · intro r hr1
    obtain ⟨x1, x2, x3⟩ := n5 r hr1
    refine ⟨x1, x2, ?_⟩
    rcases x3 with x3 | ⟨f, f1, f2⟩
    · exact Or.inl x3
    · exact Or.inr ⟨f, by omega, f2⟩
  · refine ⟨n6.1, fun k hk1 => ?_⟩
    by_cases q : k = nb
    · subst q
      rw [bn, mO 43 (by decide), lby_0 nby0, rr, if_neg (by omega), if_pos rfl]; rfl
    · exact n6.2 k (by omega)
  · exact C6.fr (fun b hb => kO b (by simp at hb; omega) (by simp at hb; omega)) (fun b hb => mO b (by simp at hb ⊢; omega)) (by rw [kO 16 (by decide) (by omega)]) (m22 17 (by decide) (by decide))
  · refine ⟨fun s hs => ?_, fun j h1 h2 => by rw [mO 46 (by decide)]; exact C7.2 j h1 h2⟩
    have q := row_se R20 hs
    have q2 := (RS.1 s hs).1
    rw [(n2 s hs).1, (n2 s hs).2.1, kdyn _ q.2.2 (F.le (by omega)), kdyn _ q2.2.2.2 (F.le (by omega)), mO 45 (by decide), mO 46 (by decide)]
    exact C7.1 s hs
  · intro p hp
    have qq := row_pa R21 hp
    rw [n3 p hp, kdyn _ qq.2.2 (F.le (by omega)), mO 47 (by decide), mO 48 (by decide), mO 49 (by decide)]
    exact C8 p hp
  · have e1 : CGyreWatchLaw_law_r6608_32e876.hc h1 = CGyreWatchLaw_law_r6608_32e876.hc h + 1 := by rw [hh1]; rfl
    have e2 : hs h1 = hs h + 9 := by rw [hh1]; rfl
    unfold Cco at C9 ⊢
    rw [e1, e2]; omega
  · intro k hk1 hne
    rw [mR.2.2.2.1] at hne
    rw [mR.2.2.1]
    by_cases q : k = nb
    · rw [q, upd_s]; exact ⟨its, by omega, hi.2, rfl⟩
    · rw [upd_o q] at hne ⊢
      exact L k (by omega) hne

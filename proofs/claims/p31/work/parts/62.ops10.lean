def srM (m : Nat → Nat → Int32) (ns c : Nat) : Nat → Nat → Int32 := upw (upw (upw (thM m 0) 46 (upd (m 46) (60 * ns + c) 10000)) 45 (upd (m 45) ns (nI c))) 22 (upd (thM m 0 22) 30 (nI (ns + 1)))
theorem srched {h : MH} {K m : Nat → Nat → Int32} {B nb nr ns np nsm d c : Nat} {S : STy} (R : Rel h K m B nb nr ns np nsm d S) (hns : ns < 4) (hc : c < 60) : Rel (srH h ns) (srK K (hn h + 1) ns c) (srM m ns c) (B + 1) nb nr (ns + 1) np nsm d S := by
  have F := R.1.1
  have h50 := F.2.2.1
  have E : Ext h (srH h ns) := ⟨by rw [srH_n.1]; omega, fun a ha => by
    rw [srH_k, srH_l, if_neg (by omega), if_neg (by omega), if_neg (by omega), if_neg (by omega), if_neg (by omega), if_neg (by omega)]; exact ⟨rfl, rfl⟩⟩
  have rO : ∀ a j, a ≤ hn h → a ≠ 20 → hr (srH h ns) a j = hr h a j := fun a j h1 h2 => by
    rw [srH_r, if_neg (by omega), if_neg (by omega), if_neg (by omega), if_neg (by omega), if_neg (by omega), if_neg (by omega)]
  have r20 : ∀ j, hr (srH h ns) 20 j = if j = ns then some (hn h + 1) else hr h 20 j := fun j => by
    rw [srH_r]
    by_cases q : j = ns
    · rw [if_pos ⟨rfl, q⟩, if_pos q]
    · rw [if_neg (by omega), if_neg (by omega), if_neg (by omega), if_neg (by omega), if_neg (by omega), if_neg (by omega), if_neg q]
  have F2 : Fix (srH h ns) := by
    refine ⟨fun a ha => ?_, fun q hq => ?_, by rw [srH_n.1]; omega, fun a ha => ?_⟩
    · rw [(E.2 (a + 1) (by omega)).1, (E.2 (a + 1) (by omega)).2]; exact F.1 a ha
    · have h51 : ∀ q ∈ RT, q.1 < 38 ∧ q.1 ≠ 20 := by decide
      have := h51 q hq
      rw [rO _ _ (by omega) this.2]; exact F.2.1 q hq
    · rw [srH_n.1] at ha
      rw [srH_k, if_neg (by omega), if_neg (by omega), if_neg (by omega)]; exact F.2.2.2 a (by omega)
  have kO : ∀ a, a ≠ 1 → a ≤ hn h → srK K (hn h + 1) ns c a = K a := fun a h1 h2 => srK_o h1 (by omega) (by omega) (by omega)
  have mO : ∀ a, a ∉ [22, 45, 46] → srM m ns c a = m a := fun a ha => by
    simp only [List.mem_cons, List.not_mem_nil, or_false, not_or] at ha
    unfold srM
    rw [upw_o ha.1, upw_o ha.2.1, upw_o ha.2.2, thM_o ha.1]
  have m22 : ∀ j, j ≠ 30 → j ≠ 0 → srM m ns c 22 j = m 22 j := fun j hj h0 => by unfold srM; rw [upw_s, upd_o hj, thM_22 h0]
  have m45 : srM m ns c 45 = upd (m 45) ns (nI c) := by unfold srM; rw [upw_o (by decide), upw_s]
  have m46 : srM m ns c 46 = upd (m 46) (60 * ns + c) 10000 := by unfold srM; rw [upw_o (by decide), upw_o (by decide), upw_s]
  have m30 : srM m ns c 22 30 = nI (ns + 1) := by unfold srM; rw [upw_s, upd_s]
  have K1 : srK K (hn h + 1) ns c 1 = upd (K 1) 7 (nI (ns + 1)) := by unfold srK; rw [upw_s]
  have Kb : srK K (hn h + 1) ns c (hn h + 1) = upd (fun _ => 0) 0 (nI c) := by
    unfold srK; rw [upw_o (by omega), upw_o (by omega), upw_o (by omega), upw_s]
  have Kc : srK K (hn h + 1) ns c (hn h + 2) = upd (fun _ => 0) c 10000 := by
    unfold srK; rw [upw_o (by omega)]; exact upw_s
  have kdyn : ∀ a, 37 < a → a ≤ hn h → srK K (hn h + 1) ns c a = K a := fun a h1 h2 => kO a (by omega) h2
  have rdyn : ∀ a j, 37 < a → a ≤ hn h → hr (srH h ns) a j = hr h a j := fun a j h1 h2 => rO a j h2 (by omega)
  obtain ⟨n1, n2, n3, n4, n5, n6⟩ := R.new (K1 := srK K (hn h + 1) ns c) (m1 := srM m ns c) E (fun k _ => rO 13 k (by omega) (by omega)) (fun j => rO 15 j (by omega) (by omega)) (fun k hk1 => by rw [r20, if_neg (by omega)]) (fun k _ => rO 21 k (by omega) (by omega)) rdyn kdyn (fun a ha => mO a (by simp at ha ⊢; omega))
  obtain ⟨⟨F, hN, R13, R15, R20, R21, RS⟩, C1, C2, C3, C4, C5, C6, C7, C8, C9⟩ := R
  have kb : hk (srH h ns) (hn h + 1) = 6 := by rw [srH_k, if_neg (by omega), if_neg (by omega), if_pos rfl]
  have sn : se (srH h ns) ns = hn h + 1 := by unfold se; rw [r20, if_pos rfl]; rfl
  have rb1 : hr (srH h ns) (hn h + 1) 1 = some (hn h + 2) := by rw [srH_r, if_neg (by omega), if_neg (by omega), if_neg (by omega), if_pos ⟨rfl, rfl⟩]
  have rb2 : hr (srH h ns) (hn h + 1) 2 = some (hn h + 3) := by rw [srH_r, if_neg (by omega), if_pos ⟨rfl, rfl⟩]
  have cn : ca (srH h ns) ns = hn h + 2 := by unfold ca; rw [sn, rb1]; rfl
  have on : co (srH h ns) ns = hn h + 3 := by unfold co; rw [sn, rb2]; rfl
  have old : ∀ s, s < ns → ca h s ≤ hn h ∧ co h s ≤ hn h := fun s hs => by
    obtain ⟨⟨q1, q2, q3, q4⟩, q5, q6, q7, q8⟩ := RS.1 s hs
    exact ⟨F.le (by omega), F.le (by omega)⟩
  refine ⟨⟨F2, ⟨hN.1, hN.2.1, by omega, hN.2.2.2⟩, R13.ext F E (fun j => rO 13 j (by omega) (by omega)) (by decide), R15.ext F E (fun j => rO 15 j (by omega) (by omega)) (by decide), R20.push F E r20 (by decide) kb (by omega), R21.ext F E (fun j => rO 21 j (by omega) (by omega)) (by decide), ⟨fun s hs => ?_, fun s s' h1 h2 h3 => ?_, fun s s' h1 h2 => ?_⟩⟩, ?_, ?_, ?_, n5, n6, ?_, ⟨fun s hs => ?_, fun j h1 h2 => ?_⟩, ?_, ?_⟩
  · by_cases q : s = ns
    · subst q
      rw [sn, cn, on, rb1, rb2, srH_k, srH_l, srH_k, srH_l, if_neg (by omega), if_pos rfl, if_neg (by omega), if_pos rfl, if_pos rfl, if_pos rfl]
      exact ⟨⟨rfl, rfl, rfl, by omega⟩, rfl, rfl, rfl, by omega⟩
    · have hs2 : s < ns := by omega
      have qq := row_se R20 hs2
      have ho := old s hs2
      obtain ⟨x1, x2, x3⟩ := n2 s hs2
      rw [x1, x2, x3, rdyn _ _ qq.2.2 (F.le (by omega)), rdyn _ _ qq.2.2 (F.le (by omega)), (E.2 _ ho.1).1, (E.2 _ ho.1).2, (E.2 _ ho.2).1, (E.2 _ ho.2).2]
      exact RS.1 s hs2
  · by_cases q : s = ns
    · by_cases q2 : s' = ns
      · omega
      · have := (old s' (by omega)).1
        rw [q, cn, (n2 s' (by omega)).2.1] at h3; omega
    · by_cases q2 : s' = ns
      · have := (old s (by omega)).1
        rw [q2, cn, (n2 s (by omega)).2.1] at h3; omega
      · rw [(n2 s (by omega)).2.1, (n2 s' (by omega)).2.1] at h3
        exact RS.2.1 s s' (by omega) (by omega) h3
  · by_cases q : s = ns
    · by_cases q2 : s' = ns
      · rw [q, q2, cn, on]; omega
      · have := (old s' (by omega)).2
        rw [q, cn, (n2 s' (by omega)).2.2]; omega
    · by_cases q2 : s' = ns
      · have := (old s (by omega)).1
        rw [q2, on, (n2 s (by omega)).2.1]; omega
      · rw [(n2 s (by omega)).2.1, (n2 s' (by omega)).2.2]
        exact RS.2.2 s s' (by omega) (by omega)
  · exact C1.fr (fun b hb => kO b (by simp at hb; omega) (by simp at hb; omega)) (fun b hb => mO b (by simp at hb ⊢; omega)) (m22 2 (by decide) (by decide))
  · obtain ⟨a1, a2, a3, a4, a6, a7, a8, a9, a10⟩ := C2
    unfold Cct
    rw [kO 14 (by decide) (by omega), kO 16 (by decide) (by omega), K1, upd_s, upd_o (show (6 : Nat) ≠ 7 by decide), upd_o (show (8 : Nat) ≠ 7 by decide), upd_o (show (9 : Nat) ≠ 7 by decide), m22 10 (by decide) (by decide), m22 33 (by decide) (by decide), m22 23 (by decide) (by decide), m22 20 (by decide) (by decide), m22 1 (by decide) (by decide), m22 29 (by decide) (by decide), m30]
    exact ⟨a1, ⟨rfl, rfl⟩, a3, a4, a6, a7, a8, a9, a10⟩
  · refine ⟨fun k hk1 => ?_, fun k h1 h2 => by rw [mO 35 (by decide)]; exact C3.2 k h1 h2⟩
    have q := row_bu R13 hk1
    rw [n1 k hk1, kdyn _ q.2.2 (F.le (by omega)), mO 30 (by decide), mO 31 (by decide), mO 32 (by decide), mO 33 (by decide), mO 34 (by decide), mO 35 (by decide), mO 43 (by decide)]
    exact C3.1 k hk1
  · exact C6.fr (fun b hb => kO b (by simp at hb; omega) (by simp at hb; omega)) (fun b hb => mO b (by simp at hb ⊢; omega)) (by rw [kO 16 (by decide) (by omega)]) (m22 17 (by decide) (by decide))
  · rw [m45, m46]
    by_cases q : s = ns
    · subst q
      rw [sn, cn, Kb, Kc, upd_s, upd_s]
      refine ⟨rfl, fun i hi => ?_⟩
      unfold upd
      by_cases e : i = c
      · rw [if_pos e, if_pos (by omega)]
      · rw [if_neg e, if_neg (by omega), C7.2 _ (by omega) (by omega)]
    · have hs2 : s < ns := by omega
      have qq := row_se R20 hs2
      have ho := old s hs2
      have h51 := (RS.1 s hs2).1.2.2.2
      obtain ⟨x1, x2, x3⟩ := n2 s hs2
      rw [x1, x2, kdyn _ qq.2.2 (F.le (by omega)), kdyn _ h51 ho.1, upd_o q]
      refine ⟨(C7.1 s hs2).1, fun i hi => ?_⟩
      rw [upd_o (by omega)]
      exact (C7.1 s hs2).2 i hi
  · rw [m46, upd_o (by omega)]; exact C7.2 j (by omega) h2
  · intro p hp
    have qq := row_pa R21 hp
    rw [n3 p hp, kdyn _ qq.2.2 (F.le (by omega)), mO 47 (by decide), mO 48 (by decide), mO 49 (by decide)]
    exact C8 p hp
  · unfold Cco at C9 ⊢
    rw [srH_n.2.1, srH_n.2.2]; omega

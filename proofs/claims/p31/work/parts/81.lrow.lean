/-! the law's small rows -/
def lw (v : Int32) (n : Nat) : Nat := v.toBitVec.toNat % 2 ^ 31 % n
theorem lw_lt {v : Int32} {n : Nat} (h : 0 < n) : lw v n < n := Nat.mod_lt _ h
theorem s_low {v x : Int32} {n : Nat} {H : MH} (e : x = nI n) (h0 : 0 < n) (hn : n ≤ 1001) : M_L_low v x H = rtI (nI (lw v n)) H := by
  subst e
  unfold M_L_low
  have hm : v &&& (2147483647 : Int32) = nI (v.toBitVec.toNat % 2 ^ 31) := pk_and v 31 (by decide)
  have hk : v.toBitVec.toNat % 2 ^ 31 < 2 ^ 31 := Nat.mod_lt _ (by decide)
  rw [x_bnd, hm, q_rm (nI_ne0 h0 (by omega)), pk_rem hk h0 (by omega)]
  rfl
def cel (Ls : Nat) (xs : Nat → Int32) (k : Nat) : Int32 := if Ls ≤ k then 51343 * (nI k + 139) + 3087197 else xs k
theorem s_lcell {Ls k : Nat} {xs : Nat → Int32} {H : MH} (hL : Ls ≤ 260) (hk : k < 1000) : M_L_cell Ls xs (nI k) H = rtI (cel Ls xs k) H := by
  unfold M_L_cell cel
  rw [x_bnd, show Int32.ofNat Ls = nI Ls from rfl]
  by_cases h : Ls ≤ k
  · rw [if_pos (nI_le h (by omega)), if_pos h]; rfl
  · rw [if_neg (nI_ge (by omega) (by omega)), if_neg h]
    unfold sld
    rw [nI_clamp (by omega), if_pos ⟨nI_pos' (by omega), by omega⟩]
/-- how far apart -/
def apd (x y : Nat) : Nat := x - y + (y - x)
theorem s_apart {x y : Nat} {H : MH} (hx : x < 1000000) (hy : y < 1000000) : M_L_apart (nI x) (nI y) H = rtI (nI (apd x y)) H := by
  unfold M_L_apart apd
  by_cases h : x ≤ y
  · rw [if_pos (nI_le h (by omega)), x_bnd, pk_sub h, show x - y + (y - x) = y - x by omega]
  · rw [if_neg (nI_ge (by omega) (by omega)), x_bnd, pk_sub (by omega), show x - y + (y - x) = x - y by omega]
/-- the law's row of currents and land -/
def LSea (la cu L : Nat → Int32) : Prop := ∀ c, c < 60 → ∃ e, e ≤ 4 ∧ cu c = nI e ∧ ((la c = 0 ∧ L c = nI e) ∨ (la c ≠ 0 ∧ L c = nI (e + 8)))
theorem LSea.cur {la cu L : Nat → Int32} (S : LSea la cu L) : Cur cu := fun c hc => by
  obtain ⟨e, h1, h2, -⟩ := S c hc
  exact ⟨e, h1, h2⟩
theorem LSea.sea {la cu L : Nat → Int32} (S : LSea la cu L) {c : Nat} (hc : c < 60) (h : la c = 0) : L c < (8 : Int32) ∧ ¬ (8 : Int32) ≤ L c ∧ L c ≤ (7 : Int32) ∧ ¬ (7 : Int32) < L c := by
  obtain ⟨e, h1, -, h3⟩ := S c hc
  rcases h3 with ⟨-, h3⟩ | ⟨h3, -⟩
  · rw [h3]
    exact ⟨nI_lt (b := 8) (by omega) (by decide), nI_ge (b := 8) (by omega) (by decide), nI_le (b := 7) (by omega) (by decide), nI_nlt (a := 7) (by omega) (by decide)⟩
  · exact absurd h h3
theorem LSea.lnd {la cu L : Nat → Int32} (S : LSea la cu L) {c : Nat} (hc : c < 60) (h : la c ≠ 0) : ¬ L c < (8 : Int32) ∧ (8 : Int32) ≤ L c ∧ ¬ L c ≤ (7 : Int32) ∧ (7 : Int32) < L c := by
  obtain ⟨e, h1, -, h3⟩ := S c hc
  rcases h3 with ⟨h3, -⟩ | ⟨-, h3⟩
  · exact absurd h3 h
  · rw [h3]
    exact ⟨nI_nlt (b := 8) (by omega) (by omega), nI_le (a := 8) (by omega) (by omega), nI_ge (a := 7) (by omega) (by omega), nI_lt (a := 7) (by omega) (by omega)⟩
theorem s_way {h : MH} {K M : Nat → Nat → Int32} {la cu : Nat → Int32} (F : Fix h) (S : LSea la cu (M 22)) {c d : Nat} (hc : c < 60) (hd : d ≤ 4) : M_L_way (nI c) (nI d) (some 22) (st h K M) = rtI (oI (bes la c d)) (st h K M) := by
  have w130 : ∀ o, o < 60 → B_L_way_130 (some 22) (nI o) (st h K M) = rtI (if la o = 0 then nI o else -1) (st h K M) := by
    intro o ho
    unfold B_L_way_130
    rw [if_neg (nI_pos (by omega)), d22 F ho]
    by_cases q : la o = 0
    · rw [if_pos (S.sea ho q).1, if_pos q]
    · rw [if_neg (S.lnd ho q).1, if_neg q]
  have wn : B_L_way_130 (some 22) (-1) (st h K M) = rtI (-1) (st h K M) := if_pos (by decide)
  unfold M_L_way
  rw [q_rm (by decide), q_dv (by decide), nd_x hc, nd_y hc]
  unfold B_L_way_80 B_L_way_81
  rcases (show d = 0 ∨ d = 1 ∨ d = 2 ∨ d = 3 ∨ d = 4 by omega) with rfl | rfl | rfl | rfl | rfl
  · rw [if_pos (by decide +kernel), if_pos (by decide +kernel), if_pos (by decide +kernel), if_pos (by decide +kernel), if_neg (fun z => z rfl), wn]
    exact congrArg (fun z => rtI z _) (besN rfl)
  · rw [if_neg (by decide +kernel)]
    by_cases hb : c % 10 < 9
    · rw [if_neg (show ¬ (9 : Int32) ≤ nI (c % 10) from nI_ge (b := 9) hb (by decide)), if_pos (by decide), if_neg (by decide +kernel), x_bnd, show nI c + (1 : Int32) = nI (c + 1) from nIs c, w130 _ (by omega)]
      exact congrArg (fun z => rtI z _) (besI (by unfold nbr; rw [if_pos rfl, if_pos hb]))
    · rw [if_pos (show (9 : Int32) ≤ nI (c % 10) from nI_le (a := 9) (by omega) (by omega)), if_neg (fun z => z rfl), wn]
      exact congrArg (fun z => rtI z _) (besN (by unfold nbr; rw [if_pos rfl, if_neg hb]))
  · rw [if_pos (by decide +kernel), if_neg (by decide +kernel)]
    by_cases hb : 0 < c % 10
    · rw [if_neg (show ¬ nI (c % 10) ≤ 0 from nI_nle hb (by omega)), if_pos (by decide), if_pos (by decide +kernel), if_neg (by decide +kernel), x_bnd, show nI c - (1 : Int32) = nI (c - 1) from nI_sub1 (by omega), w130 _ (by omega)]
      exact congrArg (fun z => rtI z _) (besI (by simp [nbr, hb]))
    · rw [if_pos (show nI (c % 10) ≤ 0 by rw [show c % 10 = 0 by omega]; decide), if_neg (fun z => z rfl), wn]
      exact congrArg (fun z => rtI z _) (besN (by simp [nbr, hb]))
  · rw [if_pos (by decide +kernel), if_pos (by decide +kernel), if_neg (by decide +kernel)]
    by_cases hb : c / 10 < 5
    · rw [if_neg (show ¬ (5 : Int32) ≤ nI (c / 10) from nI_ge (b := 5) hb (by decide)), if_pos (by decide), if_pos (by decide +kernel), if_pos (by decide +kernel), if_neg (by decide +kernel), x_bnd, show nI c + (10 : Int32) = nI (c + 10) from nI_add c 10, w130 _ (by omega)]
      exact congrArg (fun z => rtI z _) (besI (by simp [nbr, hb]))
    · rw [if_pos (show (5 : Int32) ≤ nI (c / 10) from nI_le (a := 5) (by omega) (by omega)), if_neg (fun z => z rfl), wn]
      exact congrArg (fun z => rtI z _) (besN (by simp [nbr, hb]))
  · rw [if_pos (by decide +kernel), if_pos (by decide +kernel), if_pos (by decide +kernel), if_neg (by decide +kernel)]
    by_cases hb : 0 < c / 10
    · rw [if_neg (show ¬ nI (c / 10) ≤ 0 from nI_nle hb (by omega)), if_pos (by decide), if_pos (by decide +kernel), if_pos (by decide +kernel), if_pos (by decide +kernel), x_bnd, show nI c - (10 : Int32) = nI (c - 10) from pk_sub (b := 10) (by omega), w130 _ (by omega)]
      exact congrArg (fun z => rtI z _) (besI (by simp [nbr, hb]))
    · rw [if_pos (show nI (c / 10) ≤ 0 by rw [show c / 10 = 0 by omega]; decide), if_neg (fun z => z rfl), wn]
      exact congrArg (fun z => rtI z _) (besN (by simp [nbr, hb]))
theorem s_lleads {h : MH} {K M : Nat → Nat → Int32} {la cu : Nat → Int32} (F : Fix h) (S : LSea la cu (M 22)) {c : Nat} (hc : c < 60) : M_L_leads (nI c) (some 22) (st h K M) = rtI (oI (lea la cu c)) (st h K M) := by
  obtain ⟨e, h1, h2, h3⟩ := S c hc
  have e8 : M 22 c - M 22 c / 8 * 8 = nI e := by
    rcases h3 with ⟨-, h3⟩ | ⟨-, h3⟩
    · rw [h3, show nI e - nI e / 8 * 8 = nI (e % 8) from nI_mod 8 (by omega) (by decide) (by decide), Nat.mod_eq_of_lt (by omega)]
    · rw [h3, show nI (e + 8) - nI (e + 8) / 8 * 8 = nI ((e + 8) % 8) from nI_mod 8 (by omega) (by decide) (by decide), show (e + 8) % 8 = e by omega]
  unfold M_L_leads lea
  rw [d22 F hc, q_rm (by decide), e8, s_way F S hc h1, x_rtI, h2, nI_clamp (by omega)]
theorem s_flowed {h : MH} {K M : Nat → Nat → Int32} {la cu : Nat → Int32} (F : Fix h) (S : LSea la cu (M 22)) {a c : Nat} (hka : hk h a = 20) (hla : hl h a = 60) (ha : mA a) (hc : c < 60) : M_L_flowed (nI c) (some 22) (some a) (st h K M) = rtI (flwd la cu (M a) c) (st h K M) := by
  have stp : ∀ n k v, 1 ≤ k → k ≤ 4 → L_L_flowed_26 (n + 1) (nI c) (some 22) (some a) v (nI k) (st h K M) = L_L_flowed_26 n (nI c) (some 22) (some a) (v + inw la cu (fun x => M a x / 10) c k) (nI (k + 1)) (st h K M) := by
    intro n k v k1 k4
    show B_L_flowed_26 (L_L_flowed_26 n) (nI c) (some 22) (some a) v (nI k) (st h K M) = _
    unfold B_L_flowed_26 B_L_flowed_67 B_L_flowed_68 inw
    rw [if_neg (show ¬ (5 : Int32) ≤ nI k from nI_ge (b := 5) (by omega) (by decide)), s_way F S hc k4, x_rtI]
    cases hb : bes la c k with
    | none => rw [oI_n, if_pos (by decide), x_bnd, x_bnd, nIs]
    | some q =>
      have hq := bes_lt hc hb
      rw [oI_s, if_neg (nI_pos (by omega)), s_lleads F S hq, x_rtI]
      simp only
      by_cases e : lea la cu q = some c
      · rw [e, oI_s, if_neg (fun z => z rfl), m_rd hka hla ha hq (by decide), q_dv (by decide), if_pos rfl, x_bnd, x_bnd, nIs]
      · rw [if_pos (show oI (lea la cu q) ≠ nI c from fun z => e ((oI_eq (fun f hf => by have := lea_lt hq hf; omega) (by omega)).mp z)), if_neg e, x_bnd, x_bnd, nIs]
  unfold M_L_flowed B_L_flowed_21
  rw [m_rd hka hla ha hc (by decide), s_lleads F S hc, x_rtI]
  have fin : ∀ v, v = onw (lea la cu c) (M a c / 10) → L_L_flowed_26 fuel (nI c) (some 22) (some a) (M a c - v) (1 : Int32) (st h K M) = rtI (flwd la cu (M a) c) (st h K M) := by
    intro v hv
    rw [show fuel = 995 + 1 + 1 + 1 + 1 + 1 from rfl, show (1 : Int32) = nI 1 from rfl, stp _ 1 _ (by decide) (by decide), stp _ 2 _ (by decide) (by decide), stp _ 3 _ (by decide) (by decide), stp _ 4 _ (by decide) (by decide)]
    show B_L_flowed_26 (L_L_flowed_26 995) (nI c) (some 22) (some a) _ (nI 5) (st h K M) = _
    unfold B_L_flowed_26
    rw [if_pos (by decide +kernel), hv]
    rfl
  cases hl : lea la cu c with
  | none =>
    rw [oI_n, if_pos (by decide), x_bnd]
    exact fin 0 (by rw [hl]; rfl)
  | some q =>
    have := lea_lt hc hl
    rw [oI_s, if_neg (nI_pos (by omega)), m_rd hka hla ha hc (by decide), q_dv (by decide), x_bnd]
    exact fin _ (by rw [hl]; rfl)
theorem s_drifted {h : MH} {K M : Nat → Nat → Int32} {la cu : Nat → Int32} (F : Fix h) (S : LSea la cu (M 22)) {a c : Nat} (hka : hk h a = 20) (hla : hl h a = 60) (ha : mA a) (hc : c < 60) : M_L_drifted (nI c) (some 22) (some a) (st h K M) = rtI (drfd la cu (M a) c) (st h K M) := by
  have stp : ∀ n k v, 1 ≤ k → k ≤ 4 → L_L_drifted_28 (n + 1) (nI c) (some 22) (some a) v (nI k) (st h K M) = L_L_drifted_28 n (nI c) (some 22) (some a) (v + ((bsw la (M a) c k - onw (bes la c k) (M a c / 10)) + inw la cu (fun x => 4 * M a x / 10) c k)) (nI (k + 1)) (st h K M) := by
    intro n k v k1 k4
    show B_L_drifted_28 (L_L_drifted_28 n) (nI c) (some 22) (some a) v (nI k) (st h K M) = _
    unfold B_L_drifted_28 B_L_drifted_90 B_L_drifted_91 inw bsw
    rw [if_neg (show ¬ (5 : Int32) ≤ nI k from nI_ge (b := 5) (by omega) (by decide)), s_way F S hc k4, x_rtI]
    cases hb : bes la c k with
    | none =>
      rw [oI_n, if_neg (by decide), x_bnd, x_bnd, nIs, show onw none (M a c / 10) = 0 from if_neg (fun z => z rfl)]
      exact congrArg (fun z => L_L_drifted_28 n (nI c) (some 22) (some a) (v + z) (nI (k + 1)) (st h K M)) (by decide : (0 : Int32) = 0 - 0 + 0)
    | some q =>
      have hq := bes_lt hc hb
      rw [oI_s, if_pos (nI_pos' (by omega)), m_rd hka hla ha hq (by decide), q_dv (by decide), m_rd hka hla ha hc (by decide), q_dv (by decide), x_bnd, s_lleads F S hq, x_rtI]
      simp only
      rw [show onw (some q) (M a c / 10) = M a c / 10 from rfl]
      by_cases e : lea la cu q = some c
      · rw [e, oI_s, if_neg (fun z => z rfl), m_rd hka hla ha hq (by decide), x_bnd, q_dv (by decide), if_pos rfl, x_bnd, x_bnd, x_bnd, nIs]
      · rw [if_pos (show oI (lea la cu q) ≠ nI c from fun z => e ((oI_eq (fun f hf => by have := lea_lt hq hf; omega) (by omega)).mp z)), if_neg e, x_bnd, x_bnd, x_bnd, nIs]
  unfold M_L_drifted B_L_drifted_23
  rw [m_rd hka hla ha hc (by decide), s_lleads F S hc, x_rtI]
  have fin : ∀ v, v = onw (lea la cu c) (4 * M a c / 10) → L_L_drifted_28 fuel (nI c) (some 22) (some a) (M a c - v) (1 : Int32) (st h K M) = rtI (drfd la cu (M a) c) (st h K M) := by
    intro v hv
    rw [show fuel = 995 + 1 + 1 + 1 + 1 + 1 from rfl, show (1 : Int32) = nI 1 from rfl, stp _ 1 _ (by decide) (by decide), stp _ 2 _ (by decide) (by decide), stp _ 3 _ (by decide) (by decide), stp _ 4 _ (by decide) (by decide)]
    show B_L_drifted_28 (L_L_drifted_28 995) (nI c) (some 22) (some a) _ (nI 5) (st h K M) = _
    unfold B_L_drifted_28
    rw [if_pos (by decide +kernel), hv]
    rfl
  cases hl : lea la cu c with
  | none =>
    rw [oI_n, if_pos (by decide), x_bnd]
    exact fin 0 (by rw [hl]; rfl)
  | some q =>
    have := lea_lt hc hl
    rw [oI_s, if_neg (nI_pos (by omega)), m_rd hka hla ha hc (by decide), x_bnd, q_dv (by decide), x_bnd]
    exact fin _ (by rw [hl]; rfl)
theorem s_copies {h : MH} {K M : Nat → Nat → Int32} {a b : Nat} (hka : hk h a = 20) (hla : hl h a = 60) (ha : mA a) (hkb : hk h b = 20) (hlb : hl h b = 60) (hb : mA b) (hne : a ≠ b) : M_L_copies (some a) (some b) (st h K M) = rtV (st h K (upw M b (ptw (M a) (M b) 60))) := by
  have hG := zlp0 (G := fun n i => L_L_copies_2 n (some a) (some b) (nI i) (st h K (upw M b (ptw (M a) (M b) i)))) (N := 60) (r := rtV (st h K (upw M b (ptw (M a) (M b) 60)))) (by decide) ?_ ?_
  · rw [show L_L_copies_2 fuel (some a) (some b) (nI 0) (st h K (upw M b (ptw (M a) (M b) 0))) = M_L_copies (some a) (some b) (st h K M) by rw [ptw_0, upw_id]; rfl] at hG
    exact hG
  · intro n i hi
    show B_L_copies_2 (L_L_copies_2 n) (some a) (some b) (nI i) (st h K (upw M b (ptw (M a) (M b) i))) = L_L_copies_2 n (some a) (some b) (nI (i + 1)) (st h K (upw M b (ptw (M a) (M b) (i + 1))))
    unfold B_L_copies_2
    rw [if_neg (show ¬ (60 : Int32) ≤ nI i from nI_ge (b := 60) hi (by decide)), m_rd hka hla ha hi (by decide), m_wr hkb hlb hb hi (by decide) (fun q => absurd q (by decide)), x_bnd, nIs, upw_o hne, upw_s, upw_w, ptw_n rfl]
  · intro n
    show B_L_copies_2 (L_L_copies_2 n) (some a) (some b) (nI 60) _ = _
    unfold B_L_copies_2
    rw [if_pos (show (60 : Int32) ≤ nI 60 from nI_le (a := 60) (Nat.le_refl _) (by decide))]

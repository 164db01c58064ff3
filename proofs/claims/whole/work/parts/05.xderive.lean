/-- a table's value as the programs write it -/
def pg_en (n : Nat) : Int32 := if n = 0 then -3 else if n = 1 then -2 else nI (n - 3)
theorem en_0 : pg_en 0 = -3 := rfl
theorem en_1 : pg_en 1 = -2 := rfl
theorem en_3 (j : Nat) : pg_en (j + 3) = nI j := by
  unfold pg_en
  rw [if_neg (by omega), if_neg (by omega), Nat.add_sub_cancel]
theorem en_n2 {j : Nat} (h : j < 2 ^ 31) : ¬ nI j = -2 := by
  intro e
  have h1 := congrArg Int32.toInt e
  rw [nI_toInt h, show (-2 : Int32).toInt = -2 from by decide] at h1
  omega
theorem en_n3 {j : Nat} (h : j < 2 ^ 31) : ¬ nI j = -3 := by
  intro e
  have h1 := congrArg Int32.toInt e
  rw [nI_toInt h, show (-3 : Int32).toInt = -3 from by decide] at h1
  omega
theorem en_np {j : Nat} (h : j < 2 ^ 31) : ¬ (-3 : Int32) = nI j := fun e => en_n3 h e.symm
theorem en_nq {j : Nat} (h : j < 2 ^ 31) : ¬ (-2 : Int32) = nI j := fun e => en_n2 h e.symm
theorem pg_bd3 {L p a : Nat} (h : pg_bd L p a) : a = 0 ∨ a = 1 ∨ ∃ j, p ≤ j ∧ j ≤ L ∧ a = j + 3 := by
  unfold pg_bd at h
  rcases h with h | h | h
  · exact Or.inl h
  · exact Or.inr (Or.inl h)
  · exact Or.inr (Or.inr ⟨a - 3, by omega, by omega, by omega⟩)
def pg_GX (gt gn gz : Nat → Nat) (tk af rs : Nat → Int32) : Prop := (∀ s, pg_lv gz s → tk s = nI (gt s) ∧ af s = nI (gn s)) ∧ ∀ r, r < 4 → rs r = nI (gz r)
/-- does the slot's letter stand at p? -/
def pg_m (gt : Nat → Nat) (tx : Nat → Int32) (L : Nat) (s p : Nat) : Bool :=
  decide (p < L ∧ ((gt s = 3 ∧ ¬ tx p < nI (gt (s + 1)) ∧ ¬ nI (gt (s + 2)) < tx p) ∨ (gt s ≠ 3 ∧ (gt s = 1 ∨ nI (gt s) = tx p))))
theorem pg_m_L {gt : Nat → Nat} {tx : Nat → Int32} {L : Nat} : ∀ s p, pg_m gt tx L s p = true → p < L := fun _ _ h => (of_decide_eq_true h).1
def pg_TX (oc : Nat → Int32) (T : Nat → Nat) : Prop := ∀ c, c < 816 → oc c = pg_en (T c)
section
variable {gt gn gz : Nat → Nat} {gm : Nat → Nat → Bool} {L s p : Nat} {T : Nat → Nat}
theorem pg_lv_3 (h : pg_WF gt gn gz) (hs : pg_lv gz s) (ht : gt s = 3) : pg_lv gz (s + 1) ∧ pg_lv gz (s + 2) := by
  obtain ⟨_, _, _, _, _, h6⟩ := h.2 s hs
  obtain ⟨h6, _⟩ := h6 ht
  have hz := h.1 (s / 12) (by have := hs.1; omega)
  have hs1 := hs.1
  have e1 : (s + 1) / 12 = s / 12 := by omega
  have e2 : (s + 2) / 12 = s / 12 := by omega
  refine ⟨⟨by omega, ?_⟩, ⟨by omega, ?_⟩⟩
  · rw [e1]; omega
  · rw [e2]; omega
theorem pF_10 (ht : gt s = 10) : pg_F gt gn gz gm T s p = if T (17 * (s + 1) + p) < 3 then T (17 * (s + 1) + p) else T (17 * gn (s + 1) + (T (17 * (s + 1) + p) - 3)) := by
  unfold pg_F pg_E; rw [if_pos ht]
theorem pF_11 (ht : gt s = 11) : pg_F gt gn gz gm T s p = if T (17 * (s + 1) + p) = 1 then T (17 * gn (s + 1) + p) else T (17 * (s + 1) + p) := by
  unfold pg_F pg_E; rw [if_neg (by omega), if_pos ht]
theorem pF_12 (ht : gt s = 12 ∨ gt s = 13) : pg_F gt gn gz gm T s p = pg_R (gt s) (T (17 * (s + 1) + p)) p (T (17 * s + (T (17 * (s + 1) + p) - 3))) := pg_E_rep ht
theorem pF_14 (ht : gt s = 14) : pg_F gt gn gz gm T s p = if T (17 * (s + 1) + p) = 1 then p + 3 else T (17 * (s + 1) + p) := by
  unfold pg_F pg_E; rw [if_neg (by omega), if_neg (by omega), if_neg (by omega), if_pos ht]
theorem pF_15 (ht : gt s = 15) : pg_F gt gn gz gm T s p = if T (17 * (s + 1) + p) < 3 then T (17 * (s + 1) + p) else p + 3 := by
  unfold pg_F pg_E; rw [if_neg (by omega), if_neg (by omega), if_neg (by omega), if_neg (by omega), if_pos ht]
theorem pF_16 (ht : gt s = 16) : pg_F gt gn gz gm T s p = if T (17 * (s + 1) + p) = 0 then 0 else if T (17 * (s + 1) + p) = 1 then p + 3 else 1 := by
  unfold pg_F pg_E; rw [if_neg (by omega), if_neg (by omega), if_neg (by omega), if_neg (by omega), if_neg (by omega), if_pos ht]
theorem pF_20 (ht : 20 ≤ gt s ∧ gt s ≤ 23) : pg_F gt gn gz gm T s p = if gz (gt s - 20) = 0 then 1 else T (17 * (12 * (gt s - 20)) + p) := by
  unfold pg_F pg_E; rw [if_neg (by omega), if_neg (by omega), if_neg (by omega), if_neg (by omega), if_neg (by omega), if_neg (by omega), if_pos ht]
theorem pF_2 (ht : gt s = 2) : pg_F gt gn gz gm T s p = p + 3 := by
  unfold pg_F pg_E; rw [if_neg (by omega), if_neg (by omega), if_neg (by omega), if_neg (by omega), if_neg (by omega), if_neg (by omega), if_neg (by omega), if_pos ht]
theorem pF_m (ht : gt s = 1 ∨ gt s = 3 ∨ 97 ≤ gt s) : pg_F gt gn gz gm T s p = if gm s p then p + 4 else 1 := by
  unfold pg_F pg_E; rw [if_neg (by omega), if_neg (by omega), if_neg (by omega), if_neg (by omega), if_neg (by omega), if_neg (by omega), if_neg (by omega), if_neg (by omega)]
end
section
variable {pc ln nc sc : Int32} {pd pa tk af rs tx oc nr ns ne nd ss sp sd : Nat → Int32} {post : Int32 → Prop} {x y : Int32}
theorem px_oA (s p : Nat) (hx : x = nI s) (hy : y = nI p) (hs : s < 48) (hp : p < 17) (h : post (oc (17 * s + p))) : wpX_outcomeAt post (pc, ln, nc, sc, pd, pa, tk, af, rs, tx, oc, nr, ns, ne, nd, ss, sp, sd) x y := by
  subst hx hy
  have e : nI s * 17 + nI p = nI (17 * s + p) := by rw [show (17 : Int32) = nI 17 from rfl, pk_mul, nI_add, Nat.mul_comm]
  refine br_f (nI_pos (by omega)) (br_f (nI_ge (b := 48) hs (by decide)) (br_f (nI_pos (by omega)) (br_f (nI_ge (b := 17) hp (by decide)) (br_f (by decide) ?_))))
  rw [e, nI_clamp (by omega)]
  exact ⟨vp_in_nI (by omega) (by decide), h⟩
theorem px_rO (r p z : Nat) (hx : x = nI r) (hy : y = nI p) (hr : r < 4) (hp : p < 17) (hz : rs r = nI z) (hz2 : z ≤ 12) (h : post (if z = 0 then -2 else oc (17 * (12 * r) + p))) : wpX_ruleOutcome post (pc, ln, nc, sc, pd, pa, tk, af, rs, tx, oc, nr, ns, ne, nd, ss, sp, sd) x y := by
  subst hx hy
  have e : nI r * 12 = nI (12 * r) := by rw [show (12 : Int32) = nI 12 from rfl, pk_mul, Nat.mul_comm]
  refine ⟨vp_in_nI hr (by decide), ?_⟩
  rw [nI_clamp (by omega), hz]
  by_cases z0 : z = 0
  · rw [if_pos z0] at h
    refine br_t (by rw [z0]; rfl) h
  · rw [if_neg z0] at h
    refine br_f (nI_ne0 (by omega) (by omega)) (px_oA (12 * r) p e rfl (by omega) hp h)
theorem px_sP (s : Nat) (hx : x = nI s) (hs : s + 1 < 48) (h : post (af (s + 1))) : wpX_secondPart post (pc, ln, nc, sc, pd, pa, tk, af, rs, tx, oc, nr, ns, ne, nd, ss, sp, sd) x := by
  subst hx
  refine pk_le 48 (s + 1) (fun h => absurd h (by omega)) (fun _ => ?_) rfl (nI_1 s)
  rw [nI_1, nI_clamp (by omega)]
  exact ⟨vp_in_nI hs (by decide), h⟩
theorem px_hL (p L : Nat) (hx : x = nI p) (hln : ln = nI L) (hp : p < 2 ^ 31) (hL : L ≤ 16) (h : post (if p < L then 1 else 0)) : wpX_hasLetter post (pc, ln, nc, sc, pd, pa, tk, af, rs, tx, oc, nr, ns, ne, nd, ss, sp, sd) x := by
  subst hx hln
  refine br_f (nI_pos hp) (pk_le L p (fun h1 => ?_) (fun h1 => ?_))
  · rw [if_neg (by omega)] at h; exact h
  · rw [if_pos (by omega)] at h; exact h
section
variable {gt gn gz : Nat → Nat} {L s p : Nat} {T : Nat → Nat}
theorem px_seq (hw : pg_WF gt gn gz) (hL : L ≤ 16) (hG : pg_GX gt gn gz tk af rs) (hB : pg_BX gz L T) (hT : pg_TX oc T) (hs : pg_lv gz s) (hp : p ≤ L) (ht : gt s = 10) {gm : Nat → Nat → Bool} (h : post (pg_en (pg_F gt gn gz gm T s p))) : wpX_sequenceOutcome post (pc, ln, nc, sc, pd, pa, tk, af, rs, tx, oc, nr, ns, ne, nd, ss, sp, sd) (nI s) (nI p) := by
  have l1 := (pg_lv_1 hw hs (by omega) (by omega)).1
  have l2 := (pg_lv_2 hw hs (Or.inl ht)).1
  have hb := pg_bx hB hL l1 hp
  have hl1 := l1.1
  have hl2 := l2.1
  unfold wpX_sequenceOutcome
  refine px_oA (s + 1) p (nI_1 s) rfl hl1 (by omega) ?_
  refine px_sP s rfl hl1 ?_
  rw [hT _ (by omega), (hG.1 _ l1).2]
  rw [pF_10 ht] at h
  rcases pg_bd3 hb with e | e | ⟨j, h1, h2, e⟩
  · rw [e] at h ⊢; exact br_t (by decide) h
  · rw [e] at h ⊢; exact br_t (by decide) h
  · rw [e] at h ⊢
    rw [if_neg (by omega), Nat.add_sub_cancel] at h
    rw [en_3]
    refine br_f (nI_pos (by omega)) (px_oA _ j rfl rfl hl2 (by omega) ?_)
    rw [hT _ (by omega)]; exact h
theorem px_cho (hw : pg_WF gt gn gz) (hL : L ≤ 16) (hG : pg_GX gt gn gz tk af rs) (hB : pg_BX gz L T) (hT : pg_TX oc T) (hs : pg_lv gz s) (hp : p ≤ L) (ht : gt s = 11) {gm : Nat → Nat → Bool} (h : post (pg_en (pg_F gt gn gz gm T s p))) : wpX_choiceOutcome post (pc, ln, nc, sc, pd, pa, tk, af, rs, tx, oc, nr, ns, ne, nd, ss, sp, sd) (nI s) (nI p) := by
  have l1 := (pg_lv_1 hw hs (by omega) (by omega)).1
  have l2 := (pg_lv_2 hw hs (Or.inr ht)).1
  have hb := pg_bx hB hL l1 hp
  have hl1 := l1.1
  have hl2 := l2.1
  unfold wpX_choiceOutcome
  refine px_oA (s + 1) p (nI_1 s) rfl hl1 (by omega) ?_
  refine px_sP s rfl hl1 ?_
  rw [hT _ (by omega), (hG.1 _ l1).2]
  rw [pF_11 ht] at h
  rcases pg_bd3 hb with e | e | ⟨j, h1, h2, e⟩
  · rw [e] at h ⊢; exact br_f (by decide) h
  · rw [e] at h ⊢
    refine br_t (by decide) (px_oA _ p rfl rfl hl2 (by omega) ?_)
    rw [hT _ (by omega)]; exact h
  · rw [e] at h ⊢
    rw [if_neg (by omega)] at h
    rw [en_3] at h ⊢
    exact br_f (en_n2 (by omega)) h
theorem px_rep (hw : pg_WF gt gn gz) (hL : L ≤ 16) (hG : pg_GX gt gn gz tk af rs) (hB : pg_BX gz L T) (hT : pg_TX oc T) (hs : pg_lv gz s) (hp : p ≤ L) (ht : gt s = 12 ∨ gt s = 13) {gm : Nat → Nat → Bool} (h : post (pg_en (pg_F gt gn gz gm T s p))) : wpX_repeatOutcome post (pc, ln, nc, sc, pd, pa, tk, af, rs, tx, oc, nr, ns, ne, nd, ss, sp, sd) (nI s) (nI p) := by
  have l1 := (pg_lv_1 hw hs (by omega) (by omega)).1
  have hb := pg_bx hB hL l1 hp
  have hl1 := l1.1
  have hs1 := hs.1
  unfold wpX_repeatOutcome
  refine px_oA (s + 1) p (nI_1 s) rfl hl1 (by omega) ?_
  rw [hT _ (by omega)]
  rw [pF_12 ht] at h
  unfold pg_R at h
  rcases pg_bd3 hb with e | e | ⟨j, h1, h2, e⟩
  · rw [e] at h ⊢; exact br_f (by decide) (br_t (by decide) h)
  · rw [e] at h ⊢
    refine br_t (by decide) ⟨vp_in_nI hs1 (by decide), ?_⟩
    rw [nI_clamp (by omega), (hG.1 _ hs).1]
    rw [if_pos rfl] at h
    rcases ht with ht | ht
    · rw [ht] at h ⊢; rw [if_pos rfl, en_3] at h; exact br_t (by decide) h
    · rw [ht] at h ⊢; rw [if_neg (by decide)] at h; exact br_f (by decide) h
  · rw [e] at h ⊢
    rw [if_neg (by omega), if_neg (by omega), Nat.add_sub_cancel] at h
    rw [en_3]
    refine br_f (en_n2 (by omega)) (br_f (en_n3 (by omega)) (pk_eq j p (fun e3 => ?_) (fun e3 => ?_)))
    · rw [if_pos (by omega), en_3, ← e3] at h; exact h
    · rw [if_neg (by omega)] at h
      refine px_oA s j rfl rfl hs1 (by omega) ?_
      rw [hT _ (by omega)]
      have hb2 := pg_bx hB hL hs h2
      rcases pg_bd3 hb2 with f | f | ⟨i, h3, h4, f⟩
      · rw [f] at h ⊢; exact br_f (by decide) h
      · rw [f] at h ⊢; rw [if_pos rfl, en_3] at h; exact br_t (by decide) h
      · rw [f] at h ⊢; rw [if_neg (by omega), en_3] at h; rw [en_3]; exact br_f (en_n2 (by omega)) h
theorem px_opt (hw : pg_WF gt gn gz) (hL : L ≤ 16) (hG : pg_GX gt gn gz tk af rs) (hB : pg_BX gz L T) (hT : pg_TX oc T) (hs : pg_lv gz s) (hp : p ≤ L) (ht : gt s = 14 ∨ gt s = 15 ∨ gt s = 16) {gm : Nat → Nat → Bool} (h : post (pg_en (pg_F gt gn gz gm T s p))) : wpX_optionOrAheadOutcome post (pc, ln, nc, sc, pd, pa, tk, af, rs, tx, oc, nr, ns, ne, nd, ss, sp, sd) (nI s) (nI p) := by
  have l1 := (pg_lv_1 hw hs (by omega) (by omega)).1
  have hb := pg_bx hB hL l1 hp
  have hl1 := l1.1
  have hs1 := hs.1
  refine ⟨vp_in_nI hs1 (by decide), nm_r (e' := nI (gt s)) (by rw [nI_clamp (by omega)]; exact (hG.1 _ hs).1) ?_⟩
  refine px_oA (s + 1) p (nI_1 s) rfl hl1 (by omega) ?_
  rw [hT _ (by omega)]
  rcases ht with ht | ht | ht
  · rw [pF_14 ht] at h
    rw [ht]
    rcases pg_bd3 hb with e | e | ⟨j, h1, h2, e⟩
    · rw [e] at h ⊢; exact br_t (by decide) h
    · rw [e] at h ⊢; rw [if_pos rfl, en_3] at h; exact br_f (by decide) (br_t (by decide) (br_f (by decide) h))
    · rw [e] at h ⊢
      rw [if_neg (by omega), en_3] at h
      rw [en_3]
      exact br_f (en_n3 (by omega)) (br_f (en_n2 (by omega)) (br_t (by decide) h))
  · rw [pF_15 ht] at h
    rw [ht]
    rcases pg_bd3 hb with e | e | ⟨j, h1, h2, e⟩
    · rw [e] at h ⊢; exact br_t (by decide) h
    · rw [e] at h ⊢; exact br_f (by decide) (br_t (by decide) (br_t (by decide) h))
    · rw [e] at h ⊢
      rw [if_neg (by omega), en_3] at h
      rw [en_3]
      exact br_f (en_n3 (by omega)) (br_f (en_n2 (by omega)) (br_f (by decide) (br_t (by decide) h)))
  · rw [pF_16 ht] at h
    rw [ht]
    rcases pg_bd3 hb with e | e | ⟨j, h1, h2, e⟩
    · rw [e] at h ⊢; exact br_t (by decide) h
    · rw [e] at h ⊢; rw [if_neg (by decide), if_pos rfl, en_3] at h; exact br_f (by decide) (br_t (by decide) (br_f (by decide) h))
    · rw [e] at h ⊢
      rw [if_neg (by omega), if_neg (by omega)] at h
      rw [en_3]
      exact br_f (en_n3 (by omega)) (br_f (en_n2 (by omega)) (br_f (by decide) (br_f (by decide) h)))
theorem px_lm (hw : pg_WF gt gn gz) (hL : L ≤ 16) (hln : ln = nI L) (hG : pg_GX gt gn gz tk af rs) (hs : pg_lv gz s) (hp : p ≤ L) (h : post (if pg_m gt tx L s p then 1 else 0)) : wpX_letterIsMeant post (pc, ln, nc, sc, pd, pa, tk, af, rs, tx, oc, nr, ns, ne, nd, ss, sp, sd) (nI s) (nI p) := by
  have hs1 := hs.1
  unfold wpX_letterIsMeant
  refine px_hL p L rfl hln (by omega) hL ?_
  by_cases h1 : p < L
  · rw [if_pos h1]
    refine br_f (by decide) ⟨vp_in_nI (by omega) (by decide), nm_r (e' := tx p) (by rw [nI_clamp (by omega)]) ⟨vp_in_nI hs1 (by decide), nm_r (e' := nI (gt s)) (by rw [nI_clamp (by omega)]; exact (hG.1 _ hs).1) ?_⟩⟩
    have htv : gt s < 2 ^ 31 := by
      have := (hw.2 s hs).2.1
      unfold pg_tv at this
      omega
    refine pk_eq (gt s) 3 (fun t3 => ?_) (fun t3 => ?_) rfl rfl htv
    · obtain ⟨l1, l2⟩ := pg_lv_3 hw hs t3
      have hl1 := l1.1
      have hl2 := l2.1
      have e2 : nI s + 2 = nI (s + 2) := by rw [show (2 : Int32) = nI 2 from rfl, nI_add]
      rw [nI_1, e2, nI_clamp (by omega), nI_clamp (by omega), (hG.1 _ l1).1, (hG.1 _ l2).1]
      refine br_f (nI_ge (b := 48) (by omega) (by decide)) ⟨vp_in_nI (by omega) (by decide), br_c (fun h2 => ?_) (fun h2 => ⟨vp_in_nI (by omega) (by decide), br_c (fun h3 => ?_) (fun h3 => ?_)⟩)⟩
      · rw [show pg_m gt tx L s p = false from decide_eq_false (by rintro ⟨_, ⟨_, h3, _⟩ | ⟨h3, _⟩⟩; exact h3 h2; exact h3 t3)] at h; exact h
      · rw [show pg_m gt tx L s p = false from decide_eq_false (by rintro ⟨_, ⟨_, _, h4⟩ | ⟨h4, _⟩⟩; exact h4 h3; exact h4 t3)] at h; exact h
      · rw [show pg_m gt tx L s p = true from decide_eq_true ⟨h1, Or.inl ⟨t3, h2, h3⟩⟩] at h; exact h
    · refine pk_eq (gt s) 1 (fun t1 => ?_) (fun t1 => ?_) rfl rfl htv
      · rw [show pg_m gt tx L s p = true from decide_eq_true ⟨h1, Or.inr ⟨t3, Or.inl t1⟩⟩] at h; exact h
      · refine br_c (fun h2 => ?_) (fun h2 => ?_)
        · rw [show pg_m gt tx L s p = true from decide_eq_true ⟨h1, Or.inr ⟨t3, Or.inr h2⟩⟩] at h; exact h
        · rw [show pg_m gt tx L s p = false from decide_eq_false (by rintro ⟨_, ⟨h4, _⟩ | ⟨_, h4 | h4⟩⟩; exact t3 h4; exact t1 h4; exact h2 h4)] at h; exact h
  · rw [if_neg h1]
    refine br_t rfl ?_
    rw [show pg_m gt tx L s p = false from decide_eq_false (fun h2 => h1 h2.1)] at h; exact h
theorem px_130 (hw : pg_WF gt gn gz) (hL : L ≤ 16) (hln : ln = nI L) (hG : pg_GX gt gn gz tk af rs) (hs : pg_lv gz s) (hp : p ≤ L) (ht : gt s = 1 ∨ gt s = 3 ∨ 97 ≤ gt s) (h : post (pg_en (pg_F gt gn gz (pg_m gt tx L) T s p))) : wX_deriveOutcome_130 post (nI s) (nI p) pc ln nc sc pd pa tk af rs tx oc nr ns ne nd ss sp sd := by
  unfold wX_deriveOutcome_130
  refine px_lm hw hL hln hG hs hp ?_
  rw [pF_m ht] at h
  by_cases hm : pg_m gt tx L s p = true
  · rw [if_pos hm]; rw [if_pos hm, show p + 4 = (p + 1) + 3 from rfl, en_3] at h
    refine br_f (by decide) ?_
    rw [nI_1]; exact h
  · rw [if_neg hm]; rw [if_neg hm] at h
    exact br_t rfl h
theorem px_dO (hw : pg_WF gt gn gz) (hL : L ≤ 16) (hln : ln = nI L) (hG : pg_GX gt gn gz tk af rs) (hB : pg_BX gz L T) (hT : pg_TX oc T) (hs : pg_lv gz s) (hp : p ≤ L) (h : post (pg_en (pg_F gt gn gz (pg_m gt tx L) T s p))) : wpX_deriveOutcome post (pc, ln, nc, sc, pd, pa, tk, af, rs, tx, oc, nr, ns, ne, nd, ss, sp, sd) (nI s) (nI p) := by
  have hs1 := hs.1
  refine ⟨vp_in_nI hs1 (by decide), nm_r (e' := nI (gt s)) (by rw [nI_clamp (by omega)]; exact (hG.1 _ hs).1) ?_⟩
  have htv := (hw.2 s hs).2.1
  unfold pg_tv at htv
  rcases htv with ht | ht | ht | ht | ht | ht
  · rw [ht]
    repeat (first | refine br_t (by decide) ?_ | refine br_f (by decide) ?_)
    exact px_130 hw hL hln hG hs hp (by omega) h
  · rw [ht]
    repeat (first | refine br_t (by decide) ?_ | refine br_f (by decide) ?_)
    rw [pF_2 ht, en_3] at h; exact h
  · rw [ht]
    repeat (first | refine br_t (by decide) ?_ | refine br_f (by decide) ?_)
    exact px_130 hw hL hln hG hs hp (by omega) h
  · have h7 : gt s = 10 ∨ gt s = 11 ∨ gt s = 12 ∨ gt s = 13 ∨ gt s = 14 ∨ gt s = 15 ∨ gt s = 16 := by omega
    rcases h7 with ht | ht | ht | ht | ht | ht | ht
    · rw [ht]
      repeat (first | refine br_t (by decide) ?_ | refine br_f (by decide) ?_)
      exact px_seq hw hL hG hB hT hs hp ht h
    · rw [ht]
      repeat (first | refine br_t (by decide) ?_ | refine br_f (by decide) ?_)
      exact px_cho hw hL hG hB hT hs hp ht h
    · rw [ht]
      repeat (first | refine br_t (by decide) ?_ | refine br_f (by decide) ?_)
      exact px_rep hw hL hG hB hT hs hp (by omega) h
    · rw [ht]
      repeat (first | refine br_t (by decide) ?_ | refine br_f (by decide) ?_)
      exact px_rep hw hL hG hB hT hs hp (by omega) h
    · rw [ht]
      repeat (first | refine br_t (by decide) ?_ | refine br_f (by decide) ?_)
      exact px_opt hw hL hG hB hT hs hp (by omega) h
    · rw [ht]
      repeat (first | refine br_t (by decide) ?_ | refine br_f (by decide) ?_)
      exact px_opt hw hL hG hB hT hs hp (by omega) h
    · rw [ht]
      repeat (first | refine br_t (by decide) ?_ | refine br_f (by decide) ?_)
      exact px_opt hw hL hG hB hT hs hp (by omega) h
  · refine br_f (nI_nlt (b := 20) (by omega) (by omega)) (br_f (nI_ge (b := 24) (by omega) (by omega)) (br_f (by decide) ?_))
    refine px_rO (gt s - 20) p (gz (gt s - 20)) ?_ rfl (by omega) (by omega) (hG.2 _ (by omega)) (hw.1 _ (by omega)) ?_
    · exact pk_sub (b := 20) (by omega)
    · rw [pF_20 ht] at h
      by_cases z : gz (gt s - 20) = 0
      · rw [if_pos z] at h ⊢; exact h
      · rw [if_neg z] at h ⊢
        rw [hT _ (by omega)]; exact h
  · refine br_f (nI_nlt (b := 20) (by omega) (by omega)) (br_t (nI_le (a := 24) (by omega) (by omega)) (br_t rfl ?_))
    refine br_f (nI_nlt (b := 2) (by omega) (by omega)) (br_t (nI_lt (a := 16) (by omega) (by omega)) ?_)
    exact px_130 hw hL hln hG hs hp (by omega) h
end
end

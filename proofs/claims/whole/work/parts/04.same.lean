theorem pn_R12 {a p rest : Nat} : pg_R 12 a p rest ≠ 1 := by
  unfold pg_R
  repeat' split
  all_goals omega
theorem pn_2 {a p rest : Nat} (ha : a = 0 ∨ a = 1 ∨ p + 3 ≤ a) (h : a = p + 3 → rest = p + 3) : pg_R 13 a p rest = if a < 3 then a else (if rest = 1 then a - 3 + 3 else rest) := by
  unfold pg_R
  repeat' split
  all_goals omega
theorem pn_3 {t a p rest : Nat} (ht : t = 12 ∨ t = 13) (ha : a = 0 ∨ a = 1 ∨ p + 3 ≤ a) : (if pg_R t a p rest = 1 then p + 3 else pg_R t a p rest) = if a = 0 then 0 else if a = 1 ∨ a = p + 3 then p + 3 else (if rest = 1 then a - 3 + 3 else rest) := by
  unfold pg_R
  by_cases h1 : a = 1
  · subst h1
    simp
  by_cases h0 : a = 0
  · subst h0
    simp
  by_cases h3 : a = p + 3
  · subst h3
    simp
  simp only [h1, h0, h3, if_false, or_false]
  repeat' split
  all_goals omega
theorem pn_4 {a p A' : Nat} (hA : a ≠ 0 → a ≠ 1 → A' ≠ 1) : (if a = 0 then 0 else if a = 1 ∨ a = p + 3 then p + 3 else A') = pg_R 12 a p A' := by
  unfold pg_R
  repeat' split
  all_goals omega
theorem pn_5 {a p a' A' A2 D' : Nat} (ha : a = 0 ∨ a = 1 ∨ p + 3 ≤ a) (ha' : a ≠ 0 → a ≠ 1 → a' = 0 ∨ a' = 1 ∨ a - 3 + 3 ≤ a') (h1 : a ≠ 0 → a ≠ 1 → A' = if a' = 0 then 0 else if a' = 1 ∨ a' = a - 3 + 3 then a - 3 + 3 else A2) (h2 : a ≠ 0 → a ≠ 1 → D' = if a' < 3 then a' else A2) (h3 : a ≠ 0 → a ≠ 1 → a' ≠ 0 → a' ≠ 1 → A2 ≠ 1) (h4 : a = p + 3 → a' = a) (h5 : a ≠ 0 → a ≠ 1 → a' = a - 3 + 3 → A2 = A') : (if a < 3 then a else A') = pg_R 13 a p D' := by
  unfold pg_R
  by_cases e1 : a = 1
  · subst e1; simp
  by_cases e0 : a = 0
  · subst e0; simp
  have ha' := ha' e0 e1
  have h1 := h1 e0 e1
  have h2 := h2 e0 e1
  have h3 := h3 e0 e1
  have h5 := h5 e0 e1
  have n3 : ¬ a < 3 := by omega
  rw [if_neg n3, if_neg e1, if_neg e0]
  by_cases e3 : a = p + 3
  · rw [if_pos e3, h1, h4 e3, if_neg e0, if_pos (by omega)]; omega
  rw [if_neg e3]
  by_cases f0 : a' = 0
  · rw [if_pos f0] at h1; rw [if_pos (by omega)] at h2; rw [if_neg (by omega)]; omega
  rw [if_neg f0] at h1
  by_cases f1 : a' = 1
  · rw [if_pos (Or.inl f1)] at h1; rw [if_pos (by omega)] at h2; rw [if_pos (by omega)]; omega
  have h3 := h3 f0 f1
  rw [if_neg (by omega)] at h2
  by_cases f3 : a' = a - 3 + 3
  · have h5 := h5 f3
    rw [if_pos (Or.inr f3)] at h1; rw [if_neg (by omega)]; omega
  · rw [if_neg (by omega)] at h1; rw [if_neg (by omega)]; omega
section
variable {gt gn gz : Nat → Nat} {gm : Nat → Nat → Bool} {L s p : Nat} {T T' : Nat → Nat} {rep rep' : Nat}
theorem pg_bx_of (heq : ∀ s' q, pg_lv gz s' → q ≤ L → T (17 * s' + q) = T' (17 * s' + q)) (hB : pg_BX gz L T) : pg_BX gz L T' := by
  intro c hc
  have e : 17 * (c / 17) + c % 17 = c := by omega
  have h1 := heq (c / 17) (c % 17) hc.1 hc.2
  rw [e] at h1
  rw [← h1]
  exact hB c hc
theorem pg_E_congr (h : pg_WF gt gn gz) (hL : L ≤ 16) (hs : pg_lv gz s) (hp : p ≤ L) (hB : pg_BX gz L T) (heq : ∀ s' q, pg_lv gz s' → q ≤ L → T (17 * s' + q) = T' (17 * s' + q)) (hr : gt s = 12 ∨ gt s = 13 → rep = rep') : pg_E gt gn gz gm rep T s p = pg_E gt gn gz gm rep' T' s p :=
  pg_le_as (pg_E_mono h hL hs hp hB (fun s' q a _ c => by rw [heq s' q a c]; exact pg_le_r _) (fun ht => by rw [hr ht]; exact pg_le_r _)) (pg_E_mono h hL hs hp (pg_bx_of heq hB) (fun s' q a _ c => by rw [heq s' q a c]; exact pg_le_r _) (fun ht => by rw [hr ht]; exact pg_le_r _))
theorem pg_E_rep (ht : gt s = 12 ∨ gt s = 13) : pg_E gt gn gz gm rep T s p = rep := by
  unfold pg_E
  rw [if_neg (by omega), if_neg (by omega), if_pos ht]
theorem pg_fx (hL : L ≤ 16) (f : ∀ c, pg_C gz L c → T c = pg_PX gt gn gz gm T c) (hs : pg_lv gz s) (hp : p ≤ L) : T (17 * s + p) = pg_F gt gn gz gm T s p := by
  have h := f _ (pg_C_i hs hp hL)
  unfold pg_PX at h
  have e : (17 * s + p) / 17 = s := by omega
  have e2 : (17 * s + p) % 17 = p := by omega
  rw [e, e2] at h; exact h
theorem pg_fy (hL : L ≤ 16) (f : ∀ c, pg_CY gt gz L c → T c = pg_PY gt gn gz gm T c) (hs : pg_lv gz s) (hp : p ≤ L) : T (17 * s + p) = pg_Gd gt gn gz gm T s p := by
  have h := f _ (Or.inl (pg_C_i hs hp hL))
  unfold pg_PY at h
  have e : (17 * s + p) / 17 = s := by omega
  have e2 : (17 * s + p) % 17 = p := by omega
  rw [e, e2, if_pos hs.1] at h; exact h
theorem pg_fa (hL : L ≤ 16) (f : ∀ c, pg_CY gt gz L c → T c = pg_PY gt gn gz gm T c) (hs : pg_lv gz s) (hp : p ≤ L) (ht : gt s = 12 ∨ gt s = 13) : T (17 * (s + 48) + p) = pg_Ga T s p := by
  have h := f _ (pg_CY_a hs hp hL ht)
  unfold pg_PY at h
  have e : (17 * (s + 48) + p) / 17 = s + 48 := by omega
  have e2 : (17 * (s + 48) + p) % 17 = p := by omega
  rw [e, e2, if_neg (by omega), Nat.add_sub_cancel] at h; exact h
/-- X's table as one of Y's -/
def pg_Q (T : Nat → Nat) (c : Nat) : Nat := if c < 816 then T c else if T (c - 816) = 1 then c % 17 + 3 else T (c - 816)
theorem pg_Q_1 (hs : s < 48) (hp : p ≤ 16) : pg_Q T (17 * s + p) = T (17 * s + p) := if_pos (by omega)
theorem pg_Q_2 (hp : p ≤ 16) : pg_Q T (17 * (s + 48) + p) = if T (17 * s + p) = 1 then p + 3 else T (17 * s + p) := by
  unfold pg_Q
  have e : 17 * (s + 48) + p - 816 = 17 * s + p := by omega
  have e2 : (17 * (s + 48) + p) % 17 = p := by omega
  rw [if_neg (by omega), e, e2]
theorem pg_Q_fix (h : pg_WF gt gn gz) (hL : L ≤ 16) (hB : pg_BX gz L T) (f : ∀ c, pg_C gz L c → T c = pg_PX gt gn gz gm T c) : ∀ c, pg_CY gt gz L c → pg_Q T c = pg_PY gt gn gz gm (pg_Q T) c := by
  have hF : ∀ s p, pg_lv gz s → p ≤ L → (gt s = 12 ∨ gt s = 13) → T (17 * s + p) = pg_R (gt s) (T (17 * (s + 1) + p)) p (T (17 * s + (T (17 * (s + 1) + p) - 3))) := by
    intro s p hs hp ht
    rw [pg_fx hL f hs hp]
    exact pg_E_rep ht
  intro c hc
  unfold pg_PY
  rcases hc with hc | ⟨h0, hc, ht⟩
  · obtain ⟨hs, hp⟩ := hc
    have ec : 17 * (c / 17) + c % 17 = c := by omega
    rw [if_pos hs.1]
    generalize hse : c / 17 = s at *
    generalize hpe : c % 17 = p at *
    subst ec
    rw [pg_Q_1 hs.1 (by omega), pg_fx hL f hs hp]
    refine pg_E_congr h hL hs hp hB (fun s' q a b => (pg_Q_1 a.1 (by omega)).symm) fun ht => ?_
    have l1 := (pg_lv_1 h hs (by omega) (by omega)).1
    have hb := pg_bx hB hL l1 hp
    unfold pg_bd at hb
    rw [pg_Q_1 l1.1 (by omega), pg_Q_2 (by omega)]
    by_cases t12 : gt s = 12
    · rw [if_pos t12, hF s p hs hp ht, t12, if_neg pn_R12]
    · rw [if_neg t12]
      have t13 : gt s = 13 := by omega
      have e := hF s p hs hp ht
      rw [t13] at e ⊢
      have e3 : T (17 * (s + 1) + p) = p + 3 → T (17 * s + (T (17 * (s + 1) + p) - 3)) = p + 3 := by
        intro e3
        rw [e3, Nat.add_sub_cancel, e, e3]
        unfold pg_R
        rw [if_neg (by omega), if_neg (by omega), if_pos rfl]
      rw [pn_2 (by omega) e3]
      by_cases h3 : T (17 * (s + 1) + p) < 3
      · rw [if_pos h3, if_pos h3]
      · rw [if_neg h3, if_neg h3, pg_Q_2 (by omega)]
  · have e := pg_CY_2 h0
    have n : ¬ c / 17 < 48 := by omega
    rw [if_neg n]
    obtain ⟨hs, hp⟩ := hc
    rw [e.1] at hs
    rw [e.2] at hp
    have ec : 17 * (c / 17 - 48 + 48) + c % 17 = c := by omega
    generalize hse : c / 17 - 48 = s at *
    generalize hpe : c % 17 = p at *
    rw [← ec, pg_Q_2 (by omega)]
    have l1 := (pg_lv_1 h hs (by omega) (by omega)).1
    have hb := pg_bx hB hL l1 hp
    unfold pg_bd at hb
    unfold pg_Ga
    rw [pg_Q_1 l1.1 (by omega), hF s p hs hp ht, pn_3 ht (by omega)]
    by_cases h0 : T (17 * (s + 1) + p) = 0
    · rw [if_pos h0, if_pos h0]
    rw [if_neg h0, if_neg h0]
    by_cases h3 : T (17 * (s + 1) + p) = 1 ∨ T (17 * (s + 1) + p) = p + 3
    · rw [if_pos h3, if_pos h3]
    rw [if_neg h3, if_neg h3, pg_Q_2 (by omega)]
theorem pg_Y_fix (h : pg_WF gt gn gz) (hL : L ≤ 16) (hB : pg_BY gt gz L T) (f : ∀ c, pg_CY gt gz L c → T c = pg_PY gt gn gz gm T c) (hA : ∀ s p, pg_lv gz s → p ≤ L → (gt s = 12 ∨ gt s = 13) → T (17 * (s + 48) + p) ≠ 1) : ∀ c, pg_C gz L c → T c = pg_PX gt gn gz gm T c := by
  intro c hc
  have hs := hc.1
  have hp := hc.2
  have ec : 17 * (c / 17) + c % 17 = c := by omega
  unfold pg_PX
  generalize hse : c / 17 = s at *
  generalize hpe : c % 17 = p at *
  rw [← ec, pg_fy hL f hs hp]
  refine pg_E_congr h hL hs hp (pg_byx hB) (fun _ _ _ _ => rfl) fun ht => ?_
  have l1 := (pg_lv_1 h hs (by omega) (by omega)).1
  have hb := pg_bx (pg_byx hB) hL l1 hp
  have hb2 : T (17 * (s + 1) + p) ≠ 0 → T (17 * (s + 1) + p) ≠ 1 → T (17 * (s + 1) + p) - 3 ≤ L := by
    unfold pg_bd at hb; omega
  have hb0 : T (17 * (s + 1) + p) = 0 ∨ T (17 * (s + 1) + p) = 1 ∨ p + 3 ≤ T (17 * (s + 1) + p) := by
    unfold pg_bd at hb; omega
  by_cases t12 : gt s = 12
  · rw [if_pos t12, pg_fa hL f hs hp ht, t12]
    unfold pg_Ga
    by_cases e0 : T (17 * (s + 1) + p) = 0
    · rw [e0]; simp [pg_R]
    by_cases e1 : T (17 * (s + 1) + p) = 1
    · rw [e1]; simp [pg_R]
    have h2 := hb2 e0 e1
    have e : T (17 * s + (T (17 * (s + 1) + p) - 3)) = T (17 * (s + 48) + (T (17 * (s + 1) + p) - 3)) := by
      rw [pg_fy hL f hs h2]
      unfold pg_Gd
      rw [pg_E_rep ht, if_pos t12]
    rw [e]
    exact pn_4 fun _ _ => hA s _ hs h2 ht
  · have t13 : gt s = 13 := by omega
    rw [if_neg t12, t13]
    refine pn_5 (a' := T (17 * (s + 1) + (T (17 * (s + 1) + p) - 3))) (A2 := T (17 * (s + 48) + (T (17 * (s + 1) + (T (17 * (s + 1) + p) - 3)) - 3))) hb0 ?_ ?_ ?_ ?_ ?_ ?_
    · intro h0 h1
      have := pg_bx (pg_byx hB) hL l1 (hb2 h0 h1)
      unfold pg_bd at this; omega
    · intro h0 h1
      exact pg_fa hL f hs (hb2 h0 h1) ht
    · intro h0 h1
      rw [pg_fy hL f hs (hb2 h0 h1)]
      unfold pg_Gd
      rw [pg_E_rep ht, if_neg t12]
    · intro h0 h1 h2 h3
      have := pg_bx (pg_byx hB) hL l1 (hb2 h0 h1)
      exact hA s _ hs (by unfold pg_bd at this; omega) ht
    · intro e
      rw [e, Nat.add_sub_cancel, e]
    · intro h0 h1 e
      rw [e, Nat.add_sub_cancel]
theorem pg_same {TX TY : Nat → Nat} (h : pg_WF gt gn gz) (hL : L ≤ 16) (gX : pg_Good (pg_C gz L) (pg_PX gt gn gz gm) (pg_BX gz L) TX) (fX : ∀ c, pg_C gz L c → TX c = pg_PX gt gn gz gm TX c) (gY : pg_Good (pg_CY gt gz L) (pg_PY gt gn gz gm) (pg_BY gt gz L) TY) (fY : ∀ c, pg_CY gt gz L c → TY c = pg_PY gt gn gz gm TY c) (hs : pg_lv gz s) (hp : p ≤ L) : TY (17 * s + p) = TX (17 * s + p) := by
  have h1 := gY.2.2 (pg_Q TX) (pg_Q_fix h hL gX.1 fX)
  have hA : ∀ s p, pg_lv gz s → p ≤ L → (gt s = 12 ∨ gt s = 13) → TY (17 * (s + 48) + p) ≠ 1 := by
    intro s p hs hp ht
    have h2 := h1 _ (pg_CY_a hs hp hL ht)
    rw [pg_Q_2 (by omega)] at h2
    rcases h2 with h2 | h2
    · omega
    · rw [h2]; split <;> omega
  have h3 := gX.2.2 TY (pg_Y_fix h hL gY.1 fY hA)
  have h4 := h1 _ (Or.inl (pg_C_i hs hp hL))
  have h5 := h3 _ (pg_C_i hs hp hL)
  rw [pg_Q_1 hs.1 (by omega)] at h4
  exact pg_le_as h4 h5
end

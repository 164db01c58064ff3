/-- live slots: token k of rule r is slot 12 r + k -/
def pg_lv (gz : Nat → Nat) (s : Nat) : Prop := s < 48 ∧ s % 12 < gz (s / 12)
/-- live cells -/
def pg_C (gz : Nat → Nat) (L : Nat) (c : Nat) : Prop := pg_lv gz (c / 17) ∧ c % 17 ≤ L
def pg_tv (t : Nat) : Prop := t = 1 ∨ t = 2 ∨ t = 3 ∨ (10 ≤ t ∧ t ≤ 16) ∨ (20 ≤ t ∧ t ≤ 23) ∨ (97 ≤ t ∧ t ≤ 122)
def pg_W1 (gt gn gz : Nat → Nat) (s : Nat) : Prop :=
  (s < gn s ∧ gn s ≤ 12 * (s / 12) + gz (s / 12)) ∧ pg_tv (gt s)
  ∧ (10 ≤ gt s → gt s ≤ 16 → s + 1 < 12 * (s / 12) + gz (s / 12))
  ∧ (12 ≤ gt s → gt s ≤ 16 → gn s = gn (s + 1))
  ∧ (gt s = 10 ∨ gt s = 11 → gn (s + 1) < 12 * (s / 12) + gz (s / 12) ∧ gn s = gn (gn (s + 1)))
  ∧ (gt s = 3 → s + 2 < 12 * (s / 12) + gz (s / 12) ∧ 97 ≤ gt (s + 1) ∧ 97 ≤ gt (s + 2))
/-- the grammar is whole -/
def pg_WF (gt gn gz : Nat → Nat) : Prop := (∀ r, r < 4 → gz r ≤ 12) ∧ ∀ s, pg_lv gz s → pg_W1 gt gn gz s
section
variable {gt gn gz : Nat → Nat} {L s p : Nat}
theorem pg_lv_1 (h : pg_WF gt gn gz) (hs : pg_lv gz s) (h1 : 10 ≤ gt s) (h2 : gt s ≤ 16) : pg_lv gz (s + 1) ∧ (s + 1) / 12 = s / 12 := by
  obtain ⟨_, _, h3, _⟩ := h.2 s hs
  have h3 := h3 h1 h2
  have hz := h.1 (s / 12) (by have := hs.1; omega)
  have e : (s + 1) / 12 = s / 12 := by omega
  have hs1 := hs.1
  refine ⟨⟨by omega, ?_⟩, e⟩
  rw [e]; omega
theorem pg_lv_2 (h : pg_WF gt gn gz) (hs : pg_lv gz s) (h1 : gt s = 10 ∨ gt s = 11) : pg_lv gz (gn (s + 1)) ∧ gn (s + 1) / 12 = s / 12 := by
  obtain ⟨_, _, _, _, h5, _⟩ := h.2 s hs
  obtain ⟨h6, _⟩ := h5 h1
  have h7 := pg_lv_1 h hs (by omega) (by omega)
  obtain ⟨⟨h8, _⟩, _⟩ := h.2 (s + 1) h7.1
  have hz := h.1 (s / 12) (by have := hs.1; omega)
  have hs1 := hs.1
  have e : gn (s + 1) / 12 = s / 12 := by omega
  refine ⟨⟨by omega, ?_⟩, e⟩
  rw [e]; omega
theorem pg_lv_r (h : pg_WF gt gn gz) {r : Nat} (hr : r < 4) (hz : gz r ≠ 0) : pg_lv gz (12 * r) := by
  refine ⟨by omega, ?_⟩
  have e : 12 * r / 12 = r := by omega
  rw [e]; omega
theorem pg_C_i (hs : pg_lv gz s) (hp : p ≤ L) (hL : L ≤ 16) : pg_C gz L (17 * s + p) := by
  have e : (17 * s + p) / 17 = s := by omega
  have e2 : (17 * s + p) % 17 = p := by omega
  unfold pg_C
  rw [e, e2]; exact ⟨hs, hp⟩
end
/-- what a repetition does: t its token, a the end of a round at p, rest what the repetition does behind the round -/
def pg_R (t a p rest : Nat) : Nat :=
  if a = 1 then (if t = 12 then p + 3 else 1) else if a = 0 then 0 else if a = p + 3 then p + 3 else if rest = 1 then a else rest
/-- what a slot does at a place, rep: what it does if it is a repetition -/
def pg_E (gt gn gz : Nat → Nat) (gm : Nat → Nat → Bool) (rep : Nat) (T : Nat → Nat) (s p : Nat) : Nat :=
  if gt s = 10 then (if T (17 * (s + 1) + p) < 3 then T (17 * (s + 1) + p) else T (17 * gn (s + 1) + (T (17 * (s + 1) + p) - 3)))
  else if gt s = 11 then (if T (17 * (s + 1) + p) = 1 then T (17 * gn (s + 1) + p) else T (17 * (s + 1) + p))
  else if gt s = 12 ∨ gt s = 13 then rep
  else if gt s = 14 then (if T (17 * (s + 1) + p) = 1 then p + 3 else T (17 * (s + 1) + p))
  else if gt s = 15 then (if T (17 * (s + 1) + p) < 3 then T (17 * (s + 1) + p) else p + 3)
  else if gt s = 16 then (if T (17 * (s + 1) + p) = 0 then 0 else if T (17 * (s + 1) + p) = 1 then p + 3 else 1)
  else if 20 ≤ gt s ∧ gt s ≤ 23 then (if gz (gt s - 20) = 0 then 1 else T (17 * (12 * (gt s - 20)) + p))
  else if gt s = 2 then p + 3
  else if gm s p then p + 4 else 1
def pg_F (gt gn gz : Nat → Nat) (gm : Nat → Nat → Bool) (T : Nat → Nat) (s p : Nat) : Nat :=
  pg_E gt gn gz gm (pg_R (gt s) (T (17 * (s + 1) + p)) p (T (17 * s + (T (17 * (s + 1) + p) - 3)))) T s p
def pg_Gd (gt gn gz : Nat → Nat) (gm : Nat → Nat → Bool) (T : Nat → Nat) (s p : Nat) : Nat :=
  pg_E gt gn gz gm (if gt s = 12 then T (17 * (s + 48) + p) else if T (17 * (s + 1) + p) < 3 then T (17 * (s + 1) + p) else T (17 * (s + 48) + (T (17 * (s + 1) + p) - 3))) T s p
def pg_Ga (T : Nat → Nat) (s p : Nat) : Nat :=
  if T (17 * (s + 1) + p) = 0 then 0 else if T (17 * (s + 1) + p) = 1 ∨ T (17 * (s + 1) + p) = p + 3 then p + 3 else T (17 * (s + 48) + (T (17 * (s + 1) + p) - 3))
/-- X's table and step -/
def pg_PX (gt gn gz : Nat → Nat) (gm : Nat → Nat → Bool) (T : Nat → Nat) (c : Nat) : Nat := pg_F gt gn gz gm T (c / 17) (c % 17)
/-- Y's: the cells from 816 on are 'again' -/
def pg_PY (gt gn gz : Nat → Nat) (gm : Nat → Nat → Bool) (T : Nat → Nat) (c : Nat) : Nat :=
  if c / 17 < 48 then pg_Gd gt gn gz gm T (c / 17) (c % 17) else pg_Ga T (c / 17 - 48) (c % 17)
def pg_CY (gt gz : Nat → Nat) (L : Nat) (c : Nat) : Prop :=
  pg_C gz L c ∨ (816 ≤ c ∧ pg_C gz L (c - 816) ∧ (gt (c / 17 - 48) = 12 ∨ gt (c / 17 - 48) = 13))
def pg_bd (L p a : Nat) : Prop := a = 0 ∨ a = 1 ∨ (p + 3 ≤ a ∧ a ≤ L + 3)
def pg_BX (gz : Nat → Nat) (L : Nat) (T : Nat → Nat) : Prop := ∀ c, pg_C gz L c → pg_bd L (c % 17) (T c)
def pg_BY (gt gz : Nat → Nat) (L : Nat) (T : Nat → Nat) : Prop := ∀ c, pg_CY gt gz L c → pg_bd L (c % 17) (T c)
section
variable {gt gn gz : Nat → Nat} {gm : Nat → Nat → Bool} {L s p : Nat} {T T' : Nat → Nat} {rep rep' : Nat}
theorem pg_bx (hB : pg_BX gz L T) (hL : L ≤ 16) (hs : pg_lv gz s) (hp : p ≤ L) : pg_bd L p (T (17 * s + p)) := by
  have h := hB _ (pg_C_i hs hp hL)
  have e2 : (17 * s + p) % 17 = p := by omega
  rw [e2] at h; exact h
theorem pg_E_mono (h : pg_WF gt gn gz) (hL : L ≤ 16) (hs : pg_lv gz s) (hp : p ≤ L) (hB : pg_BX gz L T) (hle : ∀ s' q, pg_lv gz s' → p ≤ q → q ≤ L → pg_le (T (17 * s' + q)) (T' (17 * s' + q))) (hr : gt s = 12 ∨ gt s = 13 → pg_le rep rep') : pg_le (pg_E gt gn gz gm rep T s p) (pg_E gt gn gz gm rep' T' s p) := by
  have hc : 10 ≤ gt s → gt s ≤ 16 → pg_le (T (17 * (s + 1) + p)) (T' (17 * (s + 1) + p)) := fun h1 h2 => hle _ _ (pg_lv_1 h hs h1 h2).1 (Nat.le_refl p) hp
  have hb : 10 ≤ gt s → gt s ≤ 16 → pg_bd L p (T (17 * (s + 1) + p)) := fun h1 h2 => pg_bx hB hL (pg_lv_1 h hs h1 h2).1 hp
  have hd : gt s = 10 ∨ gt s = 11 → ∀ q, p ≤ q → q ≤ L → pg_le (T (17 * gn (s + 1) + q)) (T' (17 * gn (s + 1) + q)) := fun h1 q hpq hq => hle _ _ (pg_lv_2 h hs h1).1 hpq hq
  unfold pg_E
  by_cases t10 : gt s = 10
  · rw [if_pos t10, if_pos t10]
    have hc := hc (by omega) (by omega)
    have hb := hb (by omega) (by omega)
    rcases hc with h0 | h0
    · rw [h0]; exact Or.inl rfl
    · rw [← h0]
      by_cases h3 : T (17 * (s + 1) + p) < 3
      · rw [if_pos h3, if_pos h3]; exact pg_le_r _
      · rw [if_neg h3, if_neg h3]
        exact hd (Or.inl t10) _ (by unfold pg_bd at hb; omega) (by unfold pg_bd at hb; omega)
  rw [if_neg t10, if_neg t10]
  by_cases t11 : gt s = 11
  · rw [if_pos t11, if_pos t11]
    have hc := hc (by omega) (by omega)
    rcases hc with h0 | h0
    · rw [h0]; exact Or.inl rfl
    · rw [← h0]
      by_cases h3 : T (17 * (s + 1) + p) = 1
      · rw [if_pos h3, if_pos h3]; exact hd (Or.inr t11) _ (Nat.le_refl p) hp
      · rw [if_neg h3, if_neg h3]; exact pg_le_r _
  rw [if_neg t11, if_neg t11]
  by_cases t12 : gt s = 12 ∨ gt s = 13
  · rw [if_pos t12, if_pos t12]; exact hr t12
  rw [if_neg t12, if_neg t12]
  by_cases t14 : gt s = 14
  · rw [if_pos t14, if_pos t14]
    rcases hc (by omega) (by omega) with h0 | h0
    · rw [h0]; exact Or.inl rfl
    · rw [← h0]; exact pg_le_r _
  rw [if_neg t14, if_neg t14]
  by_cases t15 : gt s = 15
  · rw [if_pos t15, if_pos t15]
    rcases hc (by omega) (by omega) with h0 | h0
    · rw [h0]; exact Or.inl rfl
    · rw [← h0]; exact pg_le_r _
  rw [if_neg t15, if_neg t15]
  by_cases t16 : gt s = 16
  · rw [if_pos t16, if_pos t16]
    rcases hc (by omega) (by omega) with h0 | h0
    · rw [h0]; exact Or.inl rfl
    · rw [← h0]; exact pg_le_r _
  rw [if_neg t16, if_neg t16]
  by_cases t20 : 20 ≤ gt s ∧ gt s ≤ 23
  · rw [if_pos t20, if_pos t20]
    by_cases z : gz (gt s - 20) = 0
    · rw [if_pos z, if_pos z]; exact pg_le_r _
    · rw [if_neg z, if_neg z]
      exact hle _ _ (pg_lv_r h (by omega) z) (Nat.le_refl p) hp
  rw [if_neg t20, if_neg t20]
  exact pg_le_r _
theorem pg_E_bd (h : pg_WF gt gn gz) (hL : L ≤ 16) (hg : ∀ s p, gm s p = true → p < L) (hs : pg_lv gz s) (hp : p ≤ L) (hB : pg_BX gz L T) (hr : gt s = 12 ∨ gt s = 13 → pg_bd L p rep) : pg_bd L p (pg_E gt gn gz gm rep T s p) := by
  have hb : 10 ≤ gt s → gt s ≤ 16 → pg_bd L p (T (17 * (s + 1) + p)) := fun h1 h2 => pg_bx hB hL (pg_lv_1 h hs h1 h2).1 hp
  have hd : gt s = 10 ∨ gt s = 11 → ∀ q, q ≤ L → pg_bd L q (T (17 * gn (s + 1) + q)) := fun h1 q hq => pg_bx hB hL (pg_lv_2 h hs h1).1 hq
  unfold pg_E
  unfold pg_bd at *
  by_cases t10 : gt s = 10
  · rw [if_pos t10]
    have hb := hb (by omega) (by omega)
    have hd := hd (Or.inl t10) (T (17 * (s + 1) + p) - 3)
    split <;> omega
  rw [if_neg t10]
  by_cases t11 : gt s = 11
  · rw [if_pos t11]
    have hb := hb (by omega) (by omega)
    have hd := hd (Or.inr t11) p hp
    split <;> omega
  rw [if_neg t11]
  by_cases t12 : gt s = 12 ∨ gt s = 13
  · rw [if_pos t12]; exact hr t12
  rw [if_neg t12]
  by_cases t14 : gt s = 14
  · rw [if_pos t14]
    have hb := hb (by omega) (by omega)
    split <;> omega
  rw [if_neg t14]
  by_cases t15 : gt s = 15
  · rw [if_pos t15]
    have hb := hb (by omega) (by omega)
    split <;> omega
  rw [if_neg t15]
  by_cases t16 : gt s = 16
  · rw [if_pos t16]
    have hb := hb (by omega) (by omega)
    split
    · omega
    · split <;> omega
  rw [if_neg t16]
  by_cases t20 : 20 ≤ gt s ∧ gt s ≤ 23
  · rw [if_pos t20]
    by_cases z : gz (gt s - 20) = 0
    · rw [if_pos z]; omega
    · rw [if_neg z]
      exact pg_bx hB hL (pg_lv_r h (by omega) z) hp
  rw [if_neg t20]
  by_cases t2 : gt s = 2
  · rw [if_pos t2]; omega
  rw [if_neg t2]
  by_cases hm : gm s p = true
  · rw [if_pos hm]; have := hg s p hm; omega
  · rw [if_neg hm]; omega
end

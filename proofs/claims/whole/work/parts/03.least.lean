section
variable {gt gn gz : Nat → Nat} {gm : Nat → Nat → Bool} {L s p : Nat} {T T' : Nat → Nat}
theorem pg_R_mono {t a a' rest rest' : Nat} (ha : pg_le a a') (hr : a ≠ 0 → a ≠ 1 → a ≠ p + 3 → pg_le rest rest') : pg_le (pg_R t a p rest) (pg_R t a' p rest') := by
  unfold pg_R
  rcases ha with ha | ha
  · rw [ha]; exact Or.inl rfl
  · subst ha
    by_cases h1 : a = 1
    · rw [if_pos h1, if_pos h1]; exact pg_le_r _
    rw [if_neg h1, if_neg h1]
    by_cases h0 : a = 0
    · rw [if_pos h0, if_pos h0]; exact pg_le_r _
    rw [if_neg h0, if_neg h0]
    by_cases h3 : a = p + 3
    · rw [if_pos h3, if_pos h3]; exact pg_le_r _
    rw [if_neg h3, if_neg h3]
    rcases hr h0 h1 h3 with h | h
    · rw [h]; exact Or.inl rfl
    · rw [h]; exact pg_le_r _
theorem pg_F_mono (h : pg_WF gt gn gz) (hL : L ≤ 16) (hs : pg_lv gz s) (hp : p ≤ L) (hB : pg_BX gz L T) (hle : ∀ s' q, pg_lv gz s' → p ≤ q → q ≤ L → pg_le (T (17 * s' + q)) (T' (17 * s' + q))) : pg_le (pg_F gt gn gz gm T s p) (pg_F gt gn gz gm T' s p) := by
  refine pg_E_mono h hL hs hp hB hle fun ht => ?_
  have l1 := (pg_lv_1 h hs (by omega) (by omega)).1
  have hb := pg_bx hB hL l1 hp
  unfold pg_bd at hb
  have ha := hle _ _ l1 (Nat.le_refl p) hp
  refine pg_R_mono ha fun h0 h1 _ => ?_
  have e : T (17 * (s + 1) + p) = T' (17 * (s + 1) + p) := by
    rcases ha with ha | ha
    · exact absurd ha h0
    · exact ha
  rw [← e]
  exact hle _ _ hs (by omega) (by omega)
theorem pg_F_loc (h : pg_WF gt gn gz) (hL : L ≤ 16) (hs : pg_lv gz s) (hp : p ≤ L) (hB : pg_BX gz L T) (hB' : pg_BX gz L T') (hle : ∀ s' q, pg_lv gz s' → p ≤ q → q ≤ L → T (17 * s' + q) = T' (17 * s' + q)) : pg_F gt gn gz gm T s p = pg_F gt gn gz gm T' s p :=
  pg_le_as (pg_F_mono h hL hs hp hB fun s' q a b c => by rw [hle s' q a b c]; exact pg_le_r _) (pg_F_mono h hL hs hp hB' fun s' q a b c => by rw [hle s' q a b c]; exact pg_le_r _)
theorem pg_R_bd {t a rest : Nat} (hp : p ≤ L) (ha : pg_bd L p a) (hr : a ≠ 0 → a ≠ 1 → pg_bd L (a - 3) rest) : pg_bd L p (pg_R t a p rest) := by
  unfold pg_R
  unfold pg_bd at *
  by_cases h1 : a = 1
  · rw [if_pos h1]; split <;> omega
  rw [if_neg h1]
  by_cases h0 : a = 0
  · rw [if_pos h0]; omega
  rw [if_neg h0]
  have hr := hr h0 h1
  split
  · omega
  · split <;> omega
theorem pg_F_bd (h : pg_WF gt gn gz) (hL : L ≤ 16) (hg : ∀ s p, gm s p = true → p < L) (hs : pg_lv gz s) (hp : p ≤ L) (hB : pg_BX gz L T) : pg_bd L p (pg_F gt gn gz gm T s p) := by
  refine pg_E_bd h hL hg hs hp hB fun ht => ?_
  have l1 := (pg_lv_1 h hs (by omega) (by omega)).1
  have hb := pg_bx hB hL l1 hp
  refine pg_R_bd hp hb fun h0 h1 => ?_
  refine pg_bx hB hL hs ?_
  unfold pg_bd at hb
  omega
theorem pg_monoX (h : pg_WF gt gn gz) (hL : L ≤ 16) : pg_Mono (pg_C gz L) (pg_PX gt gn gz gm) (pg_BX gz L) := by
  intro T T' hB hle c hc
  exact pg_F_mono h hL hc.1 hc.2 hB fun s' q h1 _ h3 => hle _ (pg_C_i h1 h3 hL)
theorem pg_keepX (h : pg_WF gt gn gz) (hL : L ≤ 16) (hg : ∀ s p, gm s p = true → p < L) : pg_Keep (pg_C gz L) (pg_PX gt gn gz gm) (pg_BX gz L) := by
  intro T c hB hc d hd
  by_cases e : d = c
  · subst e; rw [pu_s]; exact pg_F_bd h hL hg hc.1 hc.2 hB
  · rw [pu_n e]; exact hB d hd
theorem pg_CY_a (hs : pg_lv gz s) (hp : p ≤ L) (hL : L ≤ 16) (ht : gt s = 12 ∨ gt s = 13) : pg_CY gt gz L (17 * (s + 48) + p) := by
  refine Or.inr ⟨by omega, ?_, ?_⟩
  · have e : 17 * (s + 48) + p - 816 = 17 * s + p := by omega
    rw [e]; exact pg_C_i hs hp hL
  · have e : (17 * (s + 48) + p) / 17 - 48 = s := by omega
    rw [e]; exact ht
theorem pg_by (hB : pg_BY gt gz L T) (hL : L ≤ 16) (hs : pg_lv gz s) (hp : p ≤ L) (ht : gt s = 12 ∨ gt s = 13) : pg_bd L p (T (17 * (s + 48) + p)) := by
  have h := hB _ (pg_CY_a hs hp hL ht)
  have e2 : (17 * (s + 48) + p) % 17 = p := by omega
  rw [e2] at h; exact h
theorem pg_byx (hB : pg_BY gt gz L T) : pg_BX gz L T := fun c hc => hB c (Or.inl hc)
theorem pg_Gd_mono (h : pg_WF gt gn gz) (hL : L ≤ 16) (hs : pg_lv gz s) (hp : p ≤ L) (hB : pg_BY gt gz L T) (hle : ∀ c, pg_CY gt gz L c → pg_le (T c) (T' c)) : pg_le (pg_Gd gt gn gz gm T s p) (pg_Gd gt gn gz gm T' s p) := by
  refine pg_E_mono h hL hs hp (pg_byx hB) (fun s' q h1 _ h3 => hle _ (Or.inl (pg_C_i h1 h3 hL))) fun ht => ?_
  have l1 := (pg_lv_1 h hs (by omega) (by omega)).1
  have hb := pg_bx (pg_byx hB) hL l1 hp
  have ha := hle _ (Or.inl (pg_C_i l1 hp hL))
  by_cases t12 : gt s = 12
  · rw [if_pos t12, if_pos t12]; exact hle _ (pg_CY_a hs hp hL ht)
  rw [if_neg t12, if_neg t12]
  rcases ha with ha | ha
  · rw [ha]; exact Or.inl rfl
  · rw [← ha]
    by_cases h3 : T (17 * (s + 1) + p) < 3
    · rw [if_pos h3, if_pos h3]; exact pg_le_r _
    · rw [if_neg h3, if_neg h3]; exact hle _ (pg_CY_a hs (by unfold pg_bd at hb; omega) hL ht)
theorem pg_Ga_mono (h : pg_WF gt gn gz) (hL : L ≤ 16) (hs : pg_lv gz s) (hp : p ≤ L) (ht : gt s = 12 ∨ gt s = 13) (hB : pg_BY gt gz L T) (hle : ∀ c, pg_CY gt gz L c → pg_le (T c) (T' c)) : pg_le (pg_Ga T s p) (pg_Ga T' s p) := by
  have l1 := (pg_lv_1 h hs (by omega) (by omega)).1
  have hb := pg_bx (pg_byx hB) hL l1 hp
  have ha := hle _ (Or.inl (pg_C_i l1 hp hL))
  unfold pg_Ga
  rcases ha with ha | ha
  · rw [ha]; exact Or.inl rfl
  · rw [← ha]
    by_cases h0 : T (17 * (s + 1) + p) = 0
    · rw [if_pos h0, if_pos h0]; exact pg_le_r _
    rw [if_neg h0, if_neg h0]
    by_cases h3 : T (17 * (s + 1) + p) = 1 ∨ T (17 * (s + 1) + p) = p + 3
    · rw [if_pos h3, if_pos h3]; exact pg_le_r _
    · rw [if_neg h3, if_neg h3]; exact hle _ (pg_CY_a hs (by unfold pg_bd at hb; omega) hL ht)
theorem pg_Gd_bd (h : pg_WF gt gn gz) (hL : L ≤ 16) (hg : ∀ s p, gm s p = true → p < L) (hs : pg_lv gz s) (hp : p ≤ L) (hB : pg_BY gt gz L T) : pg_bd L p (pg_Gd gt gn gz gm T s p) := by
  refine pg_E_bd h hL hg hs hp (pg_byx hB) fun ht => ?_
  have l1 := (pg_lv_1 h hs (by omega) (by omega)).1
  have hb := pg_bx (pg_byx hB) hL l1 hp
  by_cases t12 : gt s = 12
  · rw [if_pos t12]; exact pg_by hB hL hs hp ht
  rw [if_neg t12]
  by_cases h3 : T (17 * (s + 1) + p) < 3
  · rw [if_pos h3]; exact hb
  · rw [if_neg h3]
    have h4 := pg_by hB hL hs (p := T (17 * (s + 1) + p) - 3) (by unfold pg_bd at hb; omega) ht
    unfold pg_bd at *
    omega
theorem pg_Ga_bd (h : pg_WF gt gn gz) (hL : L ≤ 16) (hs : pg_lv gz s) (hp : p ≤ L) (ht : gt s = 12 ∨ gt s = 13) (hB : pg_BY gt gz L T) : pg_bd L p (pg_Ga T s p) := by
  have l1 := (pg_lv_1 h hs (by omega) (by omega)).1
  have hb := pg_bx (pg_byx hB) hL l1 hp
  unfold pg_Ga
  by_cases h0 : T (17 * (s + 1) + p) = 0
  · rw [if_pos h0]; exact Or.inl rfl
  rw [if_neg h0]
  by_cases h3 : T (17 * (s + 1) + p) = 1 ∨ T (17 * (s + 1) + p) = p + 3
  · rw [if_pos h3]; unfold pg_bd; omega
  · rw [if_neg h3]
    have h4 := pg_by hB hL hs (p := T (17 * (s + 1) + p) - 3) (by unfold pg_bd at hb; omega) ht
    unfold pg_bd at *
    omega
theorem pg_CY_2 {c : Nat} (h0 : 816 ≤ c) : (c - 816) / 17 = c / 17 - 48 ∧ (c - 816) % 17 = c % 17 := by omega
theorem pg_CY_1 {c : Nat} (hc : pg_C gz L c) : c / 17 < 48 := hc.1.1
theorem pg_monoY (h : pg_WF gt gn gz) (hL : L ≤ 16) : pg_Mono (pg_CY gt gz L) (pg_PY gt gn gz gm) (pg_BY gt gz L) := by
  intro T T' hB hle c hc
  unfold pg_PY
  rcases hc with hc | ⟨h0, hc, ht⟩
  · rw [if_pos hc.1.1, if_pos hc.1.1]
    exact pg_Gd_mono h hL hc.1 hc.2 hB hle
  · have e := pg_CY_2 h0
    have n : ¬ c / 17 < 48 := by omega
    rw [if_neg n, if_neg n]
    unfold pg_C at hc
    rw [e.1, e.2] at hc
    exact pg_Ga_mono h hL hc.1 hc.2 ht hB hle
theorem pg_keepY (h : pg_WF gt gn gz) (hL : L ≤ 16) (hg : ∀ s p, gm s p = true → p < L) : pg_Keep (pg_CY gt gz L) (pg_PY gt gn gz gm) (pg_BY gt gz L) := by
  intro T c hB hc d hd
  by_cases e : d = c
  · subst e
    rw [pu_s]
    unfold pg_PY
    rcases hc with hc | ⟨h0, hc, ht⟩
    · rw [if_pos hc.1.1]
      exact pg_Gd_bd h hL hg hc.1 hc.2 hB
    · have e := pg_CY_2 h0
      have n : ¬ d / 17 < 48 := by omega
      rw [if_neg n]
      unfold pg_C at hc
      rw [e.1, e.2] at hc
      exact pg_Ga_bd h hL hc.1 hc.2 ht hB
  · rw [pu_n e]; exact hB d hd
end

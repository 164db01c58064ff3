section
theorem pk_us {f : Nat → Int32} {k : Nat} {x : Int32} : upd f k x k = x := if_pos rfl
theorem pk_un {f : Nat → Int32} {k j : Nat} {x : Int32} (h : j ≠ k) : upd f k x j = f j := if_neg h
theorem pk_sub {a b : Nat} (h : b ≤ a) : nI a - nI b = nI (a - b) := by
  obtain ⟨c, rfl⟩ : ∃ c, a = c + b := ⟨a - b, by omega⟩
  rw [← nI_add, Int32.add_sub_cancel, Nat.add_sub_cancel]
theorem pk_m1 (n : Nat) : nI (n + 1) + (-1) = nI n := by
  rw [← nI_1, Int32.add_assoc, show (1 : Int32) + (-1) = 0 from rfl, Int32.add_zero]
theorem pk_mul (a b : Nat) : nI a * nI b = nI (a * b) := (Int32.ofNat_mul a b).symm
theorem pk_div {a d : Nat} (ha : a < 2 ^ 31) (h0 : 0 < d) (hd : d < 2 ^ 31) : nI a / nI d = nI (a / d) := by
  apply Int32.toInt_inj.mp
  rw [lg_idiv_nonneg (by rw [nI_toInt ha]; omega) (by rw [nI_toInt hd]; omega), nI_toInt ha, nI_toInt hd, nI_toInt (Nat.lt_of_le_of_lt (Nat.div_le_self a d) ha)]
  first | rfl | exact (Int.natCast_ediv _ _).symm
theorem pk_rem {a d : Nat} (ha : a < 2 ^ 31) (h0 : 0 < d) (hd : d < 2 ^ 31) : nI a - nI a / nI d * nI d = nI (a % d) := by
  rw [pk_div ha h0 hd, pk_mul, pk_sub (Nat.div_mul_le_self a d)]
  exact congrArg nI (by have := Nat.div_add_mod' a d; omega)
theorem pk_ix (x : Int32) {n : Nat} (hn : n < 2 ^ 31) : x < 0 ∨ nI n ≤ x ∨ ∃ j : Nat, j < n ∧ x = nI j := by
  by_cases h : x < 0
  · exact Or.inl h
  · obtain ⟨j, hj, rfl⟩ := nI_of h
    by_cases h2 : j < n
    · exact Or.inr (Or.inr ⟨j, h2, rfl⟩)
    · exact Or.inr (Or.inl (nI_le (by omega) hj))
theorem pk_le {x y : Int32} {A B : Prop} (a b : Nat) (f : a ≤ b → A) (g : b < a → B) (hx : x = nI a := by rfl) (hy : y = nI b := by rfl) (ha : a < 2 ^ 31 := by omega) (hb : b < 2 ^ 31 := by omega) : (x ≤ y → A) ∧ (¬ x ≤ y → B) := by
  subst hx hy
  rw [nI_leI ha hb]
  exact ⟨f, fun z => g (by omega)⟩
theorem pk_lt {x y : Int32} {A B : Prop} (a b : Nat) (f : a < b → A) (g : b ≤ a → B) (hx : x = nI a := by rfl) (hy : y = nI b := by rfl) (ha : a < 2 ^ 31 := by omega) (hb : b < 2 ^ 31 := by omega) : (x < y → A) ∧ (¬ x < y → B) := by
  subst hx hy
  rw [nI_ltI ha hb]
  exact ⟨f, fun z => g (by omega)⟩
theorem pk_eq {x y : Int32} {A B : Prop} (a b : Nat) (f : a = b → A) (g : a ≠ b → B) (hx : x = nI a := by rfl) (hy : y = nI b := by rfl) (ha : a < 2 ^ 31 := by omega) (hb : b < 2 ^ 31 := by omega) : (x = y → A) ∧ (¬ x = y → B) := by
  subst hx hy
  rw [nI_eq ha hb]
  exact ⟨f, g⟩
theorem pk_in {x : Int32} (n N : Nat) (h : n < N) (hx : x = nI n := by rfl) (hN : N < 2 ^ 31 := by omega) : vp_in x N := by
  subst hx
  exact vp_in_nI h hN
theorem pk_cl {x : Int32} (n : Nat) (hx : x = nI n := by rfl) (h : n < 2 ^ 31 := by omega) : x.toNatClampNeg = n := by
  subst hx
  exact nI_clamp h
/-- flat order: 0 is 'stuck' -/
def pg_le (a b : Nat) : Prop := a = 0 ∨ a = b
theorem pg_le_r (a : Nat) : pg_le a a := Or.inr rfl
theorem pg_le_as {a b : Nat} (h : pg_le a b) (h' : pg_le b a) : a = b := by
  unfold pg_le at h h'; omega
def pu_set (T : Nat → Nat) (c v : Nat) : Nat → Nat := fun k => if k = c then v else T k
theorem pu_s {T : Nat → Nat} {c v : Nat} : pu_set T c v c = v := if_pos rfl
theorem pu_n {T : Nat → Nat} {c v k : Nat} (h : k ≠ c) : pu_set T c v k = T k := if_neg h
section
variable (C : Nat → Prop) (Ph : (Nat → Nat) → Nat → Nat) (B : (Nat → Nat) → Prop)
def pg_Good (T : Nat → Nat) : Prop := B T ∧ (∀ c, C c → T c ≠ 0 → T c = Ph T c) ∧ (∀ P : Nat → Nat, (∀ c, C c → P c = Ph P c) → ∀ c, C c → pg_le (T c) (P c))
def pg_Mono : Prop := ∀ T T' : Nat → Nat, B T → (∀ c, C c → pg_le (T c) (T' c)) → ∀ c, C c → pg_le (Ph T c) (Ph T' c)
def pg_Keep : Prop := ∀ (T : Nat → Nat) (c : Nat), B T → C c → B (pu_set T c (Ph T c))
end
section
variable {C : Nat → Prop} {Ph : (Nat → Nat) → Nat → Nat} {B : (Nat → Nat) → Prop}
theorem pg_step (hm : pg_Mono C Ph B) (hk : pg_Keep C Ph B) {T : Nat → Nat} {c : Nat} (h : pg_Good C Ph B T) (hc : C c) (h0 : T c = 0) : pg_Good C Ph B (pu_set T c (Ph T c)) := by
  obtain ⟨hB, hP, hS⟩ := h
  have hle : ∀ d, C d → pg_le (T d) (pu_set T c (Ph T c) d) := by
    intro d hd
    by_cases e : d = c
    · subst e; exact Or.inl h0
    · rw [pu_n e]; exact Or.inr rfl
  have hF := hm T _ hB hle
  refine ⟨hk T c hB hc, ?_, ?_⟩
  · intro d hd hn
    by_cases e : d = c
    · subst e
      rw [pu_s] at hn ⊢
      rcases hF d hd with h | h
      · exact absurd h hn
      · exact h
    · rw [pu_n e] at hn ⊢
      rcases hF d hd with h | h
      · exact absurd ((hP d hd hn).trans h) hn
      · exact (hP d hd hn).trans h
  · intro P hPf d hd
    by_cases e : d = c
    · subst e
      rw [pu_s, hPf d hd]
      exact hm T P hB (hS P hPf) d hd
    · rw [pu_n e]
      exact hS P hPf d hd
theorem pg_fix {T : Nat → Nat} (h : pg_Good C Ph B T) (hz : ∀ c, C c → T c = 0 → Ph T c = 0) : ∀ c, C c → T c = Ph T c := by
  intro c hc
  by_cases h0 : T c = 0
  · rw [h0, hz c hc h0]
  · exact h.2.1 c hc h0
theorem pg_zero (hB : B (fun _ => 0)) : pg_Good C Ph B (fun _ => 0) := ⟨hB, fun _ _ h => absurd rfl h, fun _ _ _ _ => Or.inl rfl⟩
end
section
variable (C : Nat → Prop) (Ph : (Nat → Nat) → Nat → Nat) (B : (Nat → Nat) → Prop)
/-- a run of a round: from T0 to T, cells of W may have changed, cells of V are visited, x: 'something more was settled' -/
def pg_Rn (W V : Nat → Prop) (T0 T : Nat → Nat) (x : Nat) : Prop :=
  pg_Good C Ph B T ∧ (∀ c, T0 c ≠ 0 → T c = T0 c) ∧ (∀ c, ¬ W c → T c = T0 c) ∧
  (x = 0 → T = T0 ∧ ∀ c, V c → C c → T0 c = 0 → Ph T0 c = 0) ∧ (x ≠ 0 → ∃ c, C c ∧ W c ∧ T0 c = 0 ∧ T c ≠ 0) ∧ x ≤ 1
end
section
variable {C : Nat → Prop} {Ph : (Nat → Nat) → Nat → Nat} {B : (Nat → Nat) → Prop} {W V V' : Nat → Prop} {T0 T : Nat → Nat} {x c : Nat}
theorem pg_rn_0 (h : pg_Good C Ph B T) (hV : ∀ c, V c → ¬ C c) : pg_Rn C Ph B W V T T 0 :=
  ⟨h, fun _ _ => rfl, fun _ _ => rfl, fun _ => ⟨rfl, fun c hv hc => absurd hc (hV c hv)⟩, fun h => absurd rfl h, by omega⟩
theorem pg_rn_skip (h : pg_Rn C Ph B W V T0 T x) (hV : ∀ c, V' c → V c ∨ T c ≠ 0 ∨ ¬ C c) : pg_Rn C Ph B W V' T0 T x := by
  obtain ⟨h1, h2, h3, h4, h5, h6⟩ := h
  refine ⟨h1, h2, h3, fun hx => ?_, h5, h6⟩
  obtain ⟨e, h7⟩ := h4 hx
  refine ⟨e, fun c hv hc h0 => ?_⟩
  rcases hV c hv with h | h | h
  · exact h7 c h hc h0
  · rw [e] at h; exact absurd h0 h
  · exact absurd hc h
theorem pg_rn_zero (h : pg_Rn C Ph B W V T0 T x) (hz : Ph T c = 0) (hV : ∀ d, V' d → V d ∨ d = c) : pg_Rn C Ph B W V' T0 T x := by
  obtain ⟨h1, h2, h3, h4, h5, h6⟩ := h
  refine ⟨h1, h2, h3, fun hx => ?_, h5, h6⟩
  obtain ⟨e, h7⟩ := h4 hx
  refine ⟨e, fun d hv hc h0 => ?_⟩
  rcases hV d hv with h | h
  · exact h7 d h hc h0
  · subst h; rw [← e]; exact hz
theorem pg_rn_set (hm : pg_Mono C Ph B) (hk : pg_Keep C Ph B) (h : pg_Rn C Ph B W V T0 T x) (hc : C c) (hw : W c) (h0 : T c = 0) (hz : Ph T c ≠ 0) : pg_Rn C Ph B W V' T0 (pu_set T c (Ph T c)) 1 := by
  obtain ⟨h1, h2, h3, h4, h5, h6⟩ := h
  have h00 : T0 c = 0 := by
    by_cases e : T0 c = 0
    · exact e
    · exact absurd ((h2 c e).symm.trans h0) e
  refine ⟨pg_step hm hk h1 hc h0, ?_, ?_, fun hx => absurd hx (by decide), fun _ => ⟨c, hc, hw, h00, by rw [pu_s]; exact hz⟩, by omega⟩
  · intro d hd
    by_cases e : d = c
    · subst e; exact absurd h00 hd
    · rw [pu_n e]; exact h2 d hd
  · intro d hd
    by_cases e : d = c
    · subst e; exact absurd hw hd
    · rw [pu_n e]; exact h3 d hd
end
/-- how many of the first n are 0 -/
def pg_cn (f : Nat → Nat) : Nat → Nat
  | 0 => 0
  | n + 1 => pg_cn f n + (if f n = 0 then 1 else 0)
theorem pg_cn_le (f : Nat → Nat) : ∀ n, pg_cn f n ≤ n
  | 0 => Nat.le_refl 0
  | n + 1 => by
    have := pg_cn_le f n
    unfold pg_cn
    split <;> omega
theorem pg_cn_mono {f f' : Nat → Nat} : ∀ n, (∀ k, k < n → f' k = 0 → f k = 0) → pg_cn f' n ≤ pg_cn f n
  | 0, _ => Nat.le_refl 0
  | n + 1, h => by
    have h1 := pg_cn_mono n (fun k hk => h k (by omega))
    have h2 := h n (by omega)
    unfold pg_cn
    by_cases e : f' n = 0
    · rw [if_pos e, if_pos (h2 e)]; omega
    · rw [if_neg e]; omega
theorem pg_cn_lt {f f' : Nat → Nat} {k : Nat} (hk0 : f k = 0) (hk1 : f' k ≠ 0) : ∀ n, k < n → (∀ k, k < n → f' k = 0 → f k = 0) → pg_cn f' n < pg_cn f n
  | 0, h, _ => absurd h (by omega)
  | n + 1, hk, h => by
    have h2 := h n (by omega)
    unfold pg_cn
    by_cases e : k = n
    · subst e
      have h1 := pg_cn_mono k (fun j hj => h j (by omega))
      rw [if_neg hk1, if_pos hk0]; omega
    · have h1 := pg_cn_lt hk0 hk1 n (by omega) (fun j hj => h j (by omega))
      by_cases e : f' n = 0
      · rw [if_pos e, if_pos (h2 e)]; omega
      · rw [if_neg e]; omega
end
section
/-- live slots: token k of rule r is slot 12 r + k -/
def pg_lv (gz : Nat → Nat) (s : Nat) : Prop := s < 48 ∧ s % 12 < gz (s / 12)
/-- live cells -/
def pg_C (gz : Nat → Nat) (L : Nat) (c : Nat) : Prop := pg_lv gz (c / 17) ∧ c % 17 ≤ L
def pg_tv (t : Nat) : Prop := t = 1 ∨ t = 2 ∨ t = 3 ∨ (10 ≤ t ∧ t ≤ 16) ∨ (20 ≤ t ∧ t ≤ 23) ∨ (97 ≤ t ∧ t ≤ 122)
def pg_W1 (gt gn gz : Nat → Nat) (s : Nat) : Prop :=
  (s < gn s ∧ gn s ≤ 12 * (s / 12) + gz (s / 12)) ∧ pg_tv (gt s)
  ∧ (10 ≤ gt s → gt s ≤ 16 → s + 1 < 12 * (s / 12) + gz (s / 12))
  ∧ (12 ≤ gt s → gt s ≤ 16 → gn s = gn (s + 1))
  ∧ (gt s = 10 ∨ gt s = 11 → gn (s + 1) < 12 * (s / 12) + gz (s / 12) ∧ gn s = gn (gn (s + 1)))
  ∧ (gt s = 3 → s + 2 < 12 * (s / 12) + gz (s / 12) ∧ 97 ≤ gt (s + 1) ∧ 97 ≤ gt (s + 2))
/-- the grammar is whole -/
def pg_WF (gt gn gz : Nat → Nat) : Prop := (∀ r, r < 4 → gz r ≤ 12) ∧ ∀ s, pg_lv gz s → pg_W1 gt gn gz s
section
variable {gt gn gz : Nat → Nat} {L s p : Nat}
theorem pg_lv_1 (h : pg_WF gt gn gz) (hs : pg_lv gz s) (h1 : 10 ≤ gt s) (h2 : gt s ≤ 16) : pg_lv gz (s + 1) ∧ (s + 1) / 12 = s / 12 := by
  obtain ⟨_, _, h3, _⟩ := h.2 s hs
  have h3 := h3 h1 h2
  have hz := h.1 (s / 12) (by have := hs.1; omega)
  have e : (s + 1) / 12 = s / 12 := by omega
  have hs1 := hs.1
  refine ⟨⟨by omega, ?_⟩, e⟩
  rw [e]; omega
theorem pg_lv_2 (h : pg_WF gt gn gz) (hs : pg_lv gz s) (h1 : gt s = 10 ∨ gt s = 11) : pg_lv gz (gn (s + 1)) ∧ gn (s + 1) / 12 = s / 12 := by
  obtain ⟨_, _, _, _, h5, _⟩ := h.2 s hs
  obtain ⟨h6, _⟩ := h5 h1
  have h7 := pg_lv_1 h hs (by omega) (by omega)
  obtain ⟨⟨h8, _⟩, _⟩ := h.2 (s + 1) h7.1
  have hz := h.1 (s / 12) (by have := hs.1; omega)
  have hs1 := hs.1
  have e : gn (s + 1) / 12 = s / 12 := by omega
  refine ⟨⟨by omega, ?_⟩, e⟩
  rw [e]; omega
theorem pg_lv_r (h : pg_WF gt gn gz) {r : Nat} (hr : r < 4) (hz : gz r ≠ 0) : pg_lv gz (12 * r) := by
  refine ⟨by omega, ?_⟩
  have e : 12 * r / 12 = r := by omega
  rw [e]; omega
theorem pg_C_i (hs : pg_lv gz s) (hp : p ≤ L) (hL : L ≤ 16) : pg_C gz L (17 * s + p) := by
  have e : (17 * s + p) / 17 = s := by omega
  have e2 : (17 * s + p) % 17 = p := by omega
  unfold pg_C
  rw [e, e2]; exact ⟨hs, hp⟩
end
/-- what a repetition does: t its token, a the end of a round at p, rest what the repetition does behind the round -/
def pg_R (t a p rest : Nat) : Nat :=
  if a = 1 then (if t = 12 then p + 3 else 1) else if a = 0 then 0 else if a = p + 3 then p + 3 else if rest = 1 then a else rest
/-- what a slot does at a place, rep: what it does if it is a repetition -/
def pg_E (gt gn gz : Nat → Nat) (gm : Nat → Nat → Bool) (rep : Nat) (T : Nat → Nat) (s p : Nat) : Nat :=
  if gt s = 10 then (if T (17 * (s + 1) + p) < 3 then T (17 * (s + 1) + p) else T (17 * gn (s + 1) + (T (17 * (s + 1) + p) - 3)))
  else if gt s = 11 then (if T (17 * (s + 1) + p) = 1 then T (17 * gn (s + 1) + p) else T (17 * (s + 1) + p))
  else if gt s = 12 ∨ gt s = 13 then rep
  else if gt s = 14 then (if T (17 * (s + 1) + p) = 1 then p + 3 else T (17 * (s + 1) + p))
  else if gt s = 15 then (if T (17 * (s + 1) + p) < 3 then T (17 * (s + 1) + p) else p + 3)
  else if gt s = 16 then (if T (17 * (s + 1) + p) = 0 then 0 else if T (17 * (s + 1) + p) = 1 then p + 3 else 1)
  else if 20 ≤ gt s ∧ gt s ≤ 23 then (if gz (gt s - 20) = 0 then 1 else T (17 * (12 * (gt s - 20)) + p))
  else if gt s = 2 then p + 3
  else if gm s p then p + 4 else 1
def pg_F (gt gn gz : Nat → Nat) (gm : Nat → Nat → Bool) (T : Nat → Nat) (s p : Nat) : Nat :=
  pg_E gt gn gz gm (pg_R (gt s) (T (17 * (s + 1) + p)) p (T (17 * s + (T (17 * (s + 1) + p) - 3)))) T s p
def pg_Gd (gt gn gz : Nat → Nat) (gm : Nat → Nat → Bool) (T : Nat → Nat) (s p : Nat) : Nat :=
  pg_E gt gn gz gm (if gt s = 12 then T (17 * (s + 48) + p) else if T (17 * (s + 1) + p) < 3 then T (17 * (s + 1) + p) else T (17 * (s + 48) + (T (17 * (s + 1) + p) - 3))) T s p
def pg_Ga (T : Nat → Nat) (s p : Nat) : Nat :=
  if T (17 * (s + 1) + p) = 0 then 0 else if T (17 * (s + 1) + p) = 1 ∨ T (17 * (s + 1) + p) = p + 3 then p + 3 else T (17 * (s + 48) + (T (17 * (s + 1) + p) - 3))
/-- X's table and step -/
def pg_PX (gt gn gz : Nat → Nat) (gm : Nat → Nat → Bool) (T : Nat → Nat) (c : Nat) : Nat := pg_F gt gn gz gm T (c / 17) (c % 17)
/-- Y's: the cells from 816 on are 'again' -/
def pg_PY (gt gn gz : Nat → Nat) (gm : Nat → Nat → Bool) (T : Nat → Nat) (c : Nat) : Nat :=
  if c / 17 < 48 then pg_Gd gt gn gz gm T (c / 17) (c % 17) else pg_Ga T (c / 17 - 48) (c % 17)
def pg_CY (gt gz : Nat → Nat) (L : Nat) (c : Nat) : Prop :=
  pg_C gz L c ∨ (816 ≤ c ∧ pg_C gz L (c - 816) ∧ (gt (c / 17 - 48) = 12 ∨ gt (c / 17 - 48) = 13))
def pg_bd (L p a : Nat) : Prop := a = 0 ∨ a = 1 ∨ (p + 3 ≤ a ∧ a ≤ L + 3)
def pg_BX (gz : Nat → Nat) (L : Nat) (T : Nat → Nat) : Prop := ∀ c, pg_C gz L c → pg_bd L (c % 17) (T c)
def pg_BY (gt gz : Nat → Nat) (L : Nat) (T : Nat → Nat) : Prop := ∀ c, pg_CY gt gz L c → pg_bd L (c % 17) (T c)
section
variable {gt gn gz : Nat → Nat} {gm : Nat → Nat → Bool} {L s p : Nat} {T T' : Nat → Nat} {rep rep' : Nat}
theorem pg_bx (hB : pg_BX gz L T) (hL : L ≤ 16) (hs : pg_lv gz s) (hp : p ≤ L) : pg_bd L p (T (17 * s + p)) := by
  have h := hB _ (pg_C_i hs hp hL)
  have e2 : (17 * s + p) % 17 = p := by omega
  rw [e2] at h; exact h
theorem pg_E_mono (h : pg_WF gt gn gz) (hL : L ≤ 16) (hs : pg_lv gz s) (hp : p ≤ L) (hB : pg_BX gz L T) (hle : ∀ s' q, pg_lv gz s' → p ≤ q → q ≤ L → pg_le (T (17 * s' + q)) (T' (17 * s' + q))) (hr : gt s = 12 ∨ gt s = 13 → pg_le rep rep') : pg_le (pg_E gt gn gz gm rep T s p) (pg_E gt gn gz gm rep' T' s p) := by
  have hc : 10 ≤ gt s → gt s ≤ 16 → pg_le (T (17 * (s + 1) + p)) (T' (17 * (s + 1) + p)) := fun h1 h2 => hle _ _ (pg_lv_1 h hs h1 h2).1 (Nat.le_refl p) hp
  have hb : 10 ≤ gt s → gt s ≤ 16 → pg_bd L p (T (17 * (s + 1) + p)) := fun h1 h2 => pg_bx hB hL (pg_lv_1 h hs h1 h2).1 hp
  have hd : gt s = 10 ∨ gt s = 11 → ∀ q, p ≤ q → q ≤ L → pg_le (T (17 * gn (s + 1) + q)) (T' (17 * gn (s + 1) + q)) := fun h1 q hpq hq => hle _ _ (pg_lv_2 h hs h1).1 hpq hq
  unfold pg_E
  by_cases t10 : gt s = 10
  · rw [if_pos t10, if_pos t10]
    have hc := hc (by omega) (by omega)
    have hb := hb (by omega) (by omega)
    rcases hc with h0 | h0
    · rw [h0]; exact Or.inl rfl
    · rw [← h0]
      by_cases h3 : T (17 * (s + 1) + p) < 3
      · rw [if_pos h3, if_pos h3]; exact pg_le_r _
      · rw [if_neg h3, if_neg h3]
        exact hd (Or.inl t10) _ (by unfold pg_bd at hb; omega) (by unfold pg_bd at hb; omega)
  rw [if_neg t10, if_neg t10]
  by_cases t11 : gt s = 11
  · rw [if_pos t11, if_pos t11]
    have hc := hc (by omega) (by omega)
    rcases hc with h0 | h0
    · rw [h0]; exact Or.inl rfl
    · rw [← h0]
      by_cases h3 : T (17 * (s + 1) + p) = 1
      · rw [if_pos h3, if_pos h3]; exact hd (Or.inr t11) _ (Nat.le_refl p) hp
      · rw [if_neg h3, if_neg h3]; exact pg_le_r _
  rw [if_neg t11, if_neg t11]
  by_cases t12 : gt s = 12 ∨ gt s = 13
  · rw [if_pos t12, if_pos t12]; exact hr t12
  rw [if_neg t12, if_neg t12]
  by_cases t14 : gt s = 14
  · rw [if_pos t14, if_pos t14]
    rcases hc (by omega) (by omega) with h0 | h0
    · rw [h0]; exact Or.inl rfl
    · rw [← h0]; exact pg_le_r _
  rw [if_neg t14, if_neg t14]
  by_cases t15 : gt s = 15
  · rw [if_pos t15, if_pos t15]
    rcases hc (by omega) (by omega) with h0 | h0
    · rw [h0]; exact Or.inl rfl
    · rw [← h0]; exact pg_le_r _
  rw [if_neg t15, if_neg t15]
  by_cases t16 : gt s = 16
  · rw [if_pos t16, if_pos t16]
    rcases hc (by omega) (by omega) with h0 | h0
    · rw [h0]; exact Or.inl rfl
    · rw [← h0]; exact pg_le_r _
  rw [if_neg t16, if_neg t16]
  by_cases t20 : 20 ≤ gt s ∧ gt s ≤ 23
  · rw [if_pos t20, if_pos t20]
    by_cases z : gz (gt s - 20) = 0
    · rw [if_pos z, if_pos z]; exact pg_le_r _
    · rw [if_neg z, if_neg z]
      exact hle _ _ (pg_lv_r h (by omega) z) (Nat.le_refl p) hp
  rw [if_neg t20, if_neg t20]
  exact pg_le_r _
theorem pg_E_bd (h : pg_WF gt gn gz) (hL : L ≤ 16) (hg : ∀ s p, gm s p = true → p < L) (hs : pg_lv gz s) (hp : p ≤ L) (hB : pg_BX gz L T) (hr : gt s = 12 ∨ gt s = 13 → pg_bd L p rep) : pg_bd L p (pg_E gt gn gz gm rep T s p) := by
  have hb : 10 ≤ gt s → gt s ≤ 16 → pg_bd L p (T (17 * (s + 1) + p)) := fun h1 h2 => pg_bx hB hL (pg_lv_1 h hs h1 h2).1 hp
  have hd : gt s = 10 ∨ gt s = 11 → ∀ q, q ≤ L → pg_bd L q (T (17 * gn (s + 1) + q)) := fun h1 q hq => pg_bx hB hL (pg_lv_2 h hs h1).1 hq
  unfold pg_E
  unfold pg_bd at *
  by_cases t10 : gt s = 10
  · rw [if_pos t10]
    have hb := hb (by omega) (by omega)
    have hd := hd (Or.inl t10) (T (17 * (s + 1) + p) - 3)
    split <;> omega
  rw [if_neg t10]
  by_cases t11 : gt s = 11
  · rw [if_pos t11]
    have hb := hb (by omega) (by omega)
    have hd := hd (Or.inr t11) p hp
    split <;> omega
  rw [if_neg t11]
  by_cases t12 : gt s = 12 ∨ gt s = 13
  · rw [if_pos t12]; exact hr t12
  rw [if_neg t12]
  by_cases t14 : gt s = 14
  · rw [if_pos t14]
    have hb := hb (by omega) (by omega)
    split <;> omega
  rw [if_neg t14]
  by_cases t15 : gt s = 15
  · rw [if_pos t15]
    have hb := hb (by omega) (by omega)
    split <;> omega
  rw [if_neg t15]
  by_cases t16 : gt s = 16
  · rw [if_pos t16]
    have hb := hb (by omega) (by omega)
    split
    · omega
    · split <;> omega
  rw [if_neg t16]
  by_cases t20 : 20 ≤ gt s ∧ gt s ≤ 23
  · rw [if_pos t20]
    by_cases z : gz (gt s - 20) = 0
    · rw [if_pos z]; omega
    · rw [if_neg z]
      exact pg_bx hB hL (pg_lv_r h (by omega) z) hp
  rw [if_neg t20]
  by_cases t2 : gt s = 2
  · rw [if_pos t2]; omega
  rw [if_neg t2]
  by_cases hm : gm s p = true
  · rw [if_pos hm]; have := hg s p hm; omega
  · rw [if_neg hm]; omega
end
end
section
section
variable {gt gn gz : Nat → Nat} {gm : Nat → Nat → Bool} {L s p : Nat} {T T' : Nat → Nat}
theorem pg_R_mono {t a a' rest rest' : Nat} (ha : pg_le a a') (hr : a ≠ 0 → a ≠ 1 → a ≠ p + 3 → pg_le rest rest') : pg_le (pg_R t a p rest) (pg_R t a' p rest') := by
  unfold pg_R
  rcases ha with ha | ha
  · rw [ha]; exact Or.inl rfl
  · subst ha
    by_cases h1 : a = 1
    · rw [if_pos h1, if_pos h1]; exact pg_le_r _
    rw [if_neg h1, if_neg h1]
    by_cases h0 : a = 0
    · rw [if_pos h0, if_pos h0]; exact pg_le_r _
    rw [if_neg h0, if_neg h0]
    by_cases h3 : a = p + 3
    · rw [if_pos h3, if_pos h3]; exact pg_le_r _
    rw [if_neg h3, if_neg h3]
    rcases hr h0 h1 h3 with h | h
    · rw [h]; exact Or.inl rfl
    · rw [h]; exact pg_le_r _
theorem pg_F_mono (h : pg_WF gt gn gz) (hL : L ≤ 16) (hs : pg_lv gz s) (hp : p ≤ L) (hB : pg_BX gz L T) (hle : ∀ s' q, pg_lv gz s' → p ≤ q → q ≤ L → pg_le (T (17 * s' + q)) (T' (17 * s' + q))) : pg_le (pg_F gt gn gz gm T s p) (pg_F gt gn gz gm T' s p) := by
  refine pg_E_mono h hL hs hp hB hle fun ht => ?_
  have l1 := (pg_lv_1 h hs (by omega) (by omega)).1
  have hb := pg_bx hB hL l1 hp
  unfold pg_bd at hb
  have ha := hle _ _ l1 (Nat.le_refl p) hp
  refine pg_R_mono ha fun h0 h1 _ => ?_
  have e : T (17 * (s + 1) + p) = T' (17 * (s + 1) + p) := by
    rcases ha with ha | ha
    · exact absurd ha h0
    · exact ha
  rw [← e]
  exact hle _ _ hs (by omega) (by omega)
theorem pg_F_loc (h : pg_WF gt gn gz) (hL : L ≤ 16) (hs : pg_lv gz s) (hp : p ≤ L) (hB : pg_BX gz L T) (hB' : pg_BX gz L T') (hle : ∀ s' q, pg_lv gz s' → p ≤ q → q ≤ L → T (17 * s' + q) = T' (17 * s' + q)) : pg_F gt gn gz gm T s p = pg_F gt gn gz gm T' s p :=
  pg_le_as (pg_F_mono h hL hs hp hB fun s' q a b c => by rw [hle s' q a b c]; exact pg_le_r _) (pg_F_mono h hL hs hp hB' fun s' q a b c => by rw [hle s' q a b c]; exact pg_le_r _)
theorem pg_R_bd {t a rest : Nat} (hp : p ≤ L) (ha : pg_bd L p a) (hr : a ≠ 0 → a ≠ 1 → pg_bd L (a - 3) rest) : pg_bd L p (pg_R t a p rest) := by
  unfold pg_R
  unfold pg_bd at *
  by_cases h1 : a = 1
  · rw [if_pos h1]; split <;> omega
  rw [if_neg h1]
  by_cases h0 : a = 0
  · rw [if_pos h0]; omega
  rw [if_neg h0]
  have hr := hr h0 h1
  split
  · omega
  · split <;> omega
theorem pg_F_bd (h : pg_WF gt gn gz) (hL : L ≤ 16) (hg : ∀ s p, gm s p = true → p < L) (hs : pg_lv gz s) (hp : p ≤ L) (hB : pg_BX gz L T) : pg_bd L p (pg_F gt gn gz gm T s p) := by
  refine pg_E_bd h hL hg hs hp hB fun ht => ?_
  have l1 := (pg_lv_1 h hs (by omega) (by omega)).1
  have hb := pg_bx hB hL l1 hp
  refine pg_R_bd hp hb fun h0 h1 => ?_
  refine pg_bx hB hL hs ?_
  unfold pg_bd at hb
  omega
theorem pg_monoX (h : pg_WF gt gn gz) (hL : L ≤ 16) : pg_Mono (pg_C gz L) (pg_PX gt gn gz gm) (pg_BX gz L) := by
  intro T T' hB hle c hc
  exact pg_F_mono h hL hc.1 hc.2 hB fun s' q h1 _ h3 => hle _ (pg_C_i h1 h3 hL)
theorem pg_keepX (h : pg_WF gt gn gz) (hL : L ≤ 16) (hg : ∀ s p, gm s p = true → p < L) : pg_Keep (pg_C gz L) (pg_PX gt gn gz gm) (pg_BX gz L) := by
  intro T c hB hc d hd
  by_cases e : d = c
  · subst e; rw [pu_s]; exact pg_F_bd h hL hg hc.1 hc.2 hB
  · rw [pu_n e]; exact hB d hd
theorem pg_CY_a (hs : pg_lv gz s) (hp : p ≤ L) (hL : L ≤ 16) (ht : gt s = 12 ∨ gt s = 13) : pg_CY gt gz L (17 * (s + 48) + p) := by
  refine Or.inr ⟨by omega, ?_, ?_⟩
  · have e : 17 * (s + 48) + p - 816 = 17 * s + p := by omega
    rw [e]; exact pg_C_i hs hp hL
  · have e : (17 * (s + 48) + p) / 17 - 48 = s := by omega
    rw [e]; exact ht
theorem pg_by (hB : pg_BY gt gz L T) (hL : L ≤ 16) (hs : pg_lv gz s) (hp : p ≤ L) (ht : gt s = 12 ∨ gt s = 13) : pg_bd L p (T (17 * (s + 48) + p)) := by
  have h := hB _ (pg_CY_a hs hp hL ht)
  have e2 : (17 * (s + 48) + p) % 17 = p := by omega
  rw [e2] at h; exact h
theorem pg_byx (hB : pg_BY gt gz L T) : pg_BX gz L T := fun c hc => hB c (Or.inl hc)
theorem pg_Gd_mono (h : pg_WF gt gn gz) (hL : L ≤ 16) (hs : pg_lv gz s) (hp : p ≤ L) (hB : pg_BY gt gz L T) (hle : ∀ c, pg_CY gt gz L c → pg_le (T c) (T' c)) : pg_le (pg_Gd gt gn gz gm T s p) (pg_Gd gt gn gz gm T' s p) := by
  refine pg_E_mono h hL hs hp (pg_byx hB) (fun s' q h1 _ h3 => hle _ (Or.inl (pg_C_i h1 h3 hL))) fun ht => ?_
  have l1 := (pg_lv_1 h hs (by omega) (by omega)).1
  have hb := pg_bx (pg_byx hB) hL l1 hp
  have ha := hle _ (Or.inl (pg_C_i l1 hp hL))
  by_cases t12 : gt s = 12
  · rw [if_pos t12, if_pos t12]; exact hle _ (pg_CY_a hs hp hL ht)
  rw [if_neg t12, if_neg t12]
  rcases ha with ha | ha
  · rw [ha]; exact Or.inl rfl
  · rw [← ha]
    by_cases h3 : T (17 * (s + 1) + p) < 3
    · rw [if_pos h3, if_pos h3]; exact pg_le_r _
    · rw [if_neg h3, if_neg h3]; exact hle _ (pg_CY_a hs (by unfold pg_bd at hb; omega) hL ht)
theorem pg_Ga_mono (h : pg_WF gt gn gz) (hL : L ≤ 16) (hs : pg_lv gz s) (hp : p ≤ L) (ht : gt s = 12 ∨ gt s = 13) (hB : pg_BY gt gz L T) (hle : ∀ c, pg_CY gt gz L c → pg_le (T c) (T' c)) : pg_le (pg_Ga T s p) (pg_Ga T' s p) := by
  have l1 := (pg_lv_1 h hs (by omega) (by omega)).1
  have hb := pg_bx (pg_byx hB) hL l1 hp
  have ha := hle _ (Or.inl (pg_C_i l1 hp hL))
  unfold pg_Ga
  rcases ha with ha | ha
  · rw [ha]; exact Or.inl rfl
  · rw [← ha]
    by_cases h0 : T (17 * (s + 1) + p) = 0
    · rw [if_pos h0, if_pos h0]; exact pg_le_r _
    rw [if_neg h0, if_neg h0]
    by_cases h3 : T (17 * (s + 1) + p) = 1 ∨ T (17 * (s + 1) + p) = p + 3
    · rw [if_pos h3, if_pos h3]; exact pg_le_r _
    · rw [if_neg h3, if_neg h3]; exact hle _ (pg_CY_a hs (by unfold pg_bd at hb; omega) hL ht)
theorem pg_Gd_bd (h : pg_WF gt gn gz) (hL : L ≤ 16) (hg : ∀ s p, gm s p = true → p < L) (hs : pg_lv gz s) (hp : p ≤ L) (hB : pg_BY gt gz L T) : pg_bd L p (pg_Gd gt gn gz gm T s p) := by
  refine pg_E_bd h hL hg hs hp (pg_byx hB) fun ht => ?_
  have l1 := (pg_lv_1 h hs (by omega) (by omega)).1
  have hb := pg_bx (pg_byx hB) hL l1 hp
  by_cases t12 : gt s = 12
  · rw [if_pos t12]; exact pg_by hB hL hs hp ht
  rw [if_neg t12]
  by_cases h3 : T (17 * (s + 1) + p) < 3
  · rw [if_pos h3]; exact hb
  · rw [if_neg h3]
    have h4 := pg_by hB hL hs (p := T (17 * (s + 1) + p) - 3) (by unfold pg_bd at hb; omega) ht
    unfold pg_bd at *
    omega
theorem pg_Ga_bd (h : pg_WF gt gn gz) (hL : L ≤ 16) (hs : pg_lv gz s) (hp : p ≤ L) (ht : gt s = 12 ∨ gt s = 13) (hB : pg_BY gt gz L T) : pg_bd L p (pg_Ga T s p) := by
  have l1 := (pg_lv_1 h hs (by omega) (by omega)).1
  have hb := pg_bx (pg_byx hB) hL l1 hp
  unfold pg_Ga
  by_cases h0 : T (17 * (s + 1) + p) = 0
  · rw [if_pos h0]; exact Or.inl rfl
  rw [if_neg h0]
  by_cases h3 : T (17 * (s + 1) + p) = 1 ∨ T (17 * (s + 1) + p) = p + 3
  · rw [if_pos h3]; unfold pg_bd; omega
  · rw [if_neg h3]
    have h4 := pg_by hB hL hs (p := T (17 * (s + 1) + p) - 3) (by unfold pg_bd at hb; omega) ht
    unfold pg_bd at *
    omega
theorem pg_CY_2 {c : Nat} (h0 : 816 ≤ c) : (c - 816) / 17 = c / 17 - 48 ∧ (c - 816) % 17 = c % 17 := by omega
theorem pg_CY_1 {c : Nat} (hc : pg_C gz L c) : c / 17 < 48 := hc.1.1
theorem pg_monoY (h : pg_WF gt gn gz) (hL : L ≤ 16) : pg_Mono (pg_CY gt gz L) (pg_PY gt gn gz gm) (pg_BY gt gz L) := by
  intro T T' hB hle c hc
  unfold pg_PY
  rcases hc with hc | ⟨h0, hc, ht⟩
  · rw [if_pos hc.1.1, if_pos hc.1.1]
    exact pg_Gd_mono h hL hc.1 hc.2 hB hle
  · have e := pg_CY_2 h0
    have n : ¬ c / 17 < 48 := by omega
    rw [if_neg n, if_neg n]
    unfold pg_C at hc
    rw [e.1, e.2] at hc
    exact pg_Ga_mono h hL hc.1 hc.2 ht hB hle
theorem pg_keepY (h : pg_WF gt gn gz) (hL : L ≤ 16) (hg : ∀ s p, gm s p = true → p < L) : pg_Keep (pg_CY gt gz L) (pg_PY gt gn gz gm) (pg_BY gt gz L) := by
  intro T c hB hc d hd
  by_cases e : d = c
  · subst e
    rw [pu_s]
    unfold pg_PY
    rcases hc with hc | ⟨h0, hc, ht⟩
    · rw [if_pos hc.1.1]
      exact pg_Gd_bd h hL hg hc.1 hc.2 hB
    · have e := pg_CY_2 h0
      have n : ¬ d / 17 < 48 := by omega
      rw [if_neg n]
      unfold pg_C at hc
      rw [e.1, e.2] at hc
      exact pg_Ga_bd h hL hc.1 hc.2 ht hB
  · rw [pu_n e]; exact hB d hd
end
end
section
theorem pn_R12 {a p rest : Nat} : pg_R 12 a p rest ≠ 1 := by
  unfold pg_R
  repeat' split
  all_goals omega
theorem pn_2 {a p rest : Nat} (ha : a = 0 ∨ a = 1 ∨ p + 3 ≤ a) (h : a = p + 3 → rest = p + 3) : pg_R 13 a p rest = if a < 3 then a else (if rest = 1 then a - 3 + 3 else rest) := by
  unfold pg_R
  repeat' split
  all_goals omega
theorem pn_3 {t a p rest : Nat} (ht : t = 12 ∨ t = 13) (ha : a = 0 ∨ a = 1 ∨ p + 3 ≤ a) : (if pg_R t a p rest = 1 then p + 3 else pg_R t a p rest) = if a = 0 then 0 else if a = 1 ∨ a = p + 3 then p + 3 else (if rest = 1 then a - 3 + 3 else rest) := by
  unfold pg_R
  by_cases h1 : a = 1
  · subst h1
    simp
  by_cases h0 : a = 0
  · subst h0
    simp
  by_cases h3 : a = p + 3
  · subst h3
    simp
  simp only [h1, h0, h3, if_false, or_false]
  repeat' split
  all_goals omega
theorem pn_4 {a p A' : Nat} (hA : a ≠ 0 → a ≠ 1 → A' ≠ 1) : (if a = 0 then 0 else if a = 1 ∨ a = p + 3 then p + 3 else A') = pg_R 12 a p A' := by
  unfold pg_R
  repeat' split
  all_goals omega
theorem pn_5 {a p a' A' A2 D' : Nat} (ha : a = 0 ∨ a = 1 ∨ p + 3 ≤ a) (ha' : a ≠ 0 → a ≠ 1 → a' = 0 ∨ a' = 1 ∨ a - 3 + 3 ≤ a') (h1 : a ≠ 0 → a ≠ 1 → A' = if a' = 0 then 0 else if a' = 1 ∨ a' = a - 3 + 3 then a - 3 + 3 else A2) (h2 : a ≠ 0 → a ≠ 1 → D' = if a' < 3 then a' else A2) (h3 : a ≠ 0 → a ≠ 1 → a' ≠ 0 → a' ≠ 1 → A2 ≠ 1) (h4 : a = p + 3 → a' = a) (h5 : a ≠ 0 → a ≠ 1 → a' = a - 3 + 3 → A2 = A') : (if a < 3 then a else A') = pg_R 13 a p D' := by
  unfold pg_R
  by_cases e1 : a = 1
  · subst e1; simp
  by_cases e0 : a = 0
  · subst e0; simp
  have ha' := ha' e0 e1
  have h1 := h1 e0 e1
  have h2 := h2 e0 e1
  have h3 := h3 e0 e1
  have h5 := h5 e0 e1
  have n3 : ¬ a < 3 := by omega
  rw [if_neg n3, if_neg e1, if_neg e0]
  by_cases e3 : a = p + 3
  · rw [if_pos e3, h1, h4 e3, if_neg e0, if_pos (by omega)]; omega
  rw [if_neg e3]
  by_cases f0 : a' = 0
  · rw [if_pos f0] at h1; rw [if_pos (by omega)] at h2; rw [if_neg (by omega)]; omega
  rw [if_neg f0] at h1
  by_cases f1 : a' = 1
  · rw [if_pos (Or.inl f1)] at h1; rw [if_pos (by omega)] at h2; rw [if_pos (by omega)]; omega
  have h3 := h3 f0 f1
  rw [if_neg (by omega)] at h2
  by_cases f3 : a' = a - 3 + 3
  · have h5 := h5 f3
    rw [if_pos (Or.inr f3)] at h1; rw [if_neg (by omega)]; omega
  · rw [if_neg (by omega)] at h1; rw [if_neg (by omega)]; omega
section
variable {gt gn gz : Nat → Nat} {gm : Nat → Nat → Bool} {L s p : Nat} {T T' : Nat → Nat} {rep rep' : Nat}
theorem pg_bx_of (heq : ∀ s' q, pg_lv gz s' → q ≤ L → T (17 * s' + q) = T' (17 * s' + q)) (hB : pg_BX gz L T) : pg_BX gz L T' := by
  intro c hc
  have e : 17 * (c / 17) + c % 17 = c := by omega
  have h1 := heq (c / 17) (c % 17) hc.1 hc.2
  rw [e] at h1
  rw [← h1]
  exact hB c hc
theorem pg_E_congr (h : pg_WF gt gn gz) (hL : L ≤ 16) (hs : pg_lv gz s) (hp : p ≤ L) (hB : pg_BX gz L T) (heq : ∀ s' q, pg_lv gz s' → q ≤ L → T (17 * s' + q) = T' (17 * s' + q)) (hr : gt s = 12 ∨ gt s = 13 → rep = rep') : pg_E gt gn gz gm rep T s p = pg_E gt gn gz gm rep' T' s p :=
  pg_le_as (pg_E_mono h hL hs hp hB (fun s' q a _ c => by rw [heq s' q a c]; exact pg_le_r _) (fun ht => by rw [hr ht]; exact pg_le_r _)) (pg_E_mono h hL hs hp (pg_bx_of heq hB) (fun s' q a _ c => by rw [heq s' q a c]; exact pg_le_r _) (fun ht => by rw [hr ht]; exact pg_le_r _))
theorem pg_E_rep (ht : gt s = 12 ∨ gt s = 13) : pg_E gt gn gz gm rep T s p = rep := by
  unfold pg_E
  rw [if_neg (by omega), if_neg (by omega), if_pos ht]
theorem pg_fx (hL : L ≤ 16) (f : ∀ c, pg_C gz L c → T c = pg_PX gt gn gz gm T c) (hs : pg_lv gz s) (hp : p ≤ L) : T (17 * s + p) = pg_F gt gn gz gm T s p := by
  have h := f _ (pg_C_i hs hp hL)
  unfold pg_PX at h
  have e : (17 * s + p) / 17 = s := by omega
  have e2 : (17 * s + p) % 17 = p := by omega
  rw [e, e2] at h; exact h
theorem pg_fy (hL : L ≤ 16) (f : ∀ c, pg_CY gt gz L c → T c = pg_PY gt gn gz gm T c) (hs : pg_lv gz s) (hp : p ≤ L) : T (17 * s + p) = pg_Gd gt gn gz gm T s p := by
  have h := f _ (Or.inl (pg_C_i hs hp hL))
  unfold pg_PY at h
  have e : (17 * s + p) / 17 = s := by omega
  have e2 : (17 * s + p) % 17 = p := by omega
  rw [e, e2, if_pos hs.1] at h; exact h
theorem pg_fa (hL : L ≤ 16) (f : ∀ c, pg_CY gt gz L c → T c = pg_PY gt gn gz gm T c) (hs : pg_lv gz s) (hp : p ≤ L) (ht : gt s = 12 ∨ gt s = 13) : T (17 * (s + 48) + p) = pg_Ga T s p := by
  have h := f _ (pg_CY_a hs hp hL ht)
  unfold pg_PY at h
  have e : (17 * (s + 48) + p) / 17 = s + 48 := by omega
  have e2 : (17 * (s + 48) + p) % 17 = p := by omega
  rw [e, e2, if_neg (by omega), Nat.add_sub_cancel] at h; exact h
/-- X's table as one of Y's -/
def pg_Q (T : Nat → Nat) (c : Nat) : Nat := if c < 816 then T c else if T (c - 816) = 1 then c % 17 + 3 else T (c - 816)
theorem pg_Q_1 (hs : s < 48) (hp : p ≤ 16) : pg_Q T (17 * s + p) = T (17 * s + p) := if_pos (by omega)
theorem pg_Q_2 (hp : p ≤ 16) : pg_Q T (17 * (s + 48) + p) = if T (17 * s + p) = 1 then p + 3 else T (17 * s + p) := by
  unfold pg_Q
  have e : 17 * (s + 48) + p - 816 = 17 * s + p := by omega
  have e2 : (17 * (s + 48) + p) % 17 = p := by omega
  rw [if_neg (by omega), e, e2]
theorem pg_Q_fix (h : pg_WF gt gn gz) (hL : L ≤ 16) (hB : pg_BX gz L T) (f : ∀ c, pg_C gz L c → T c = pg_PX gt gn gz gm T c) : ∀ c, pg_CY gt gz L c → pg_Q T c = pg_PY gt gn gz gm (pg_Q T) c := by
  have hF : ∀ s p, pg_lv gz s → p ≤ L → (gt s = 12 ∨ gt s = 13) → T (17 * s + p) = pg_R (gt s) (T (17 * (s + 1) + p)) p (T (17 * s + (T (17 * (s + 1) + p) - 3))) := by
    intro s p hs hp ht
    rw [pg_fx hL f hs hp]
    exact pg_E_rep ht
  intro c hc
  unfold pg_PY
  rcases hc with hc | ⟨h0, hc, ht⟩
  · obtain ⟨hs, hp⟩ := hc
    have ec : 17 * (c / 17) + c % 17 = c := by omega
    rw [if_pos hs.1]
    generalize hse : c / 17 = s at *
    generalize hpe : c % 17 = p at *
    subst ec
    rw [pg_Q_1 hs.1 (by omega), pg_fx hL f hs hp]
    refine pg_E_congr h hL hs hp hB (fun s' q a b => (pg_Q_1 a.1 (by omega)).symm) fun ht => ?_
    have l1 := (pg_lv_1 h hs (by omega) (by omega)).1
    have hb := pg_bx hB hL l1 hp
    unfold pg_bd at hb
    rw [pg_Q_1 l1.1 (by omega), pg_Q_2 (by omega)]
    by_cases t12 : gt s = 12
    · rw [if_pos t12, hF s p hs hp ht, t12, if_neg pn_R12]
    · rw [if_neg t12]
      have t13 : gt s = 13 := by omega
      have e := hF s p hs hp ht
      rw [t13] at e ⊢
      have e3 : T (17 * (s + 1) + p) = p + 3 → T (17 * s + (T (17 * (s + 1) + p) - 3)) = p + 3 := by
        intro e3
        rw [e3, Nat.add_sub_cancel, e, e3]
        unfold pg_R
        rw [if_neg (by omega), if_neg (by omega), if_pos rfl]
      rw [pn_2 (by omega) e3]
      by_cases h3 : T (17 * (s + 1) + p) < 3
      · rw [if_pos h3, if_pos h3]
      · rw [if_neg h3, if_neg h3, pg_Q_2 (by omega)]
  · have e := pg_CY_2 h0
    have n : ¬ c / 17 < 48 := by omega
    rw [if_neg n]
    obtain ⟨hs, hp⟩ := hc
    rw [e.1] at hs
    rw [e.2] at hp
    have ec : 17 * (c / 17 - 48 + 48) + c % 17 = c := by omega
    generalize hse : c / 17 - 48 = s at *
    generalize hpe : c % 17 = p at *
    rw [← ec, pg_Q_2 (by omega)]
    have l1 := (pg_lv_1 h hs (by omega) (by omega)).1
    have hb := pg_bx hB hL l1 hp
    unfold pg_bd at hb
    unfold pg_Ga
    rw [pg_Q_1 l1.1 (by omega), hF s p hs hp ht, pn_3 ht (by omega)]
    by_cases h0 : T (17 * (s + 1) + p) = 0
    · rw [if_pos h0, if_pos h0]
    rw [if_neg h0, if_neg h0]
    by_cases h3 : T (17 * (s + 1) + p) = 1 ∨ T (17 * (s + 1) + p) = p + 3
    · rw [if_pos h3, if_pos h3]
    rw [if_neg h3, if_neg h3, pg_Q_2 (by omega)]
theorem pg_Y_fix (h : pg_WF gt gn gz) (hL : L ≤ 16) (hB : pg_BY gt gz L T) (f : ∀ c, pg_CY gt gz L c → T c = pg_PY gt gn gz gm T c) (hA : ∀ s p, pg_lv gz s → p ≤ L → (gt s = 12 ∨ gt s = 13) → T (17 * (s + 48) + p) ≠ 1) : ∀ c, pg_C gz L c → T c = pg_PX gt gn gz gm T c := by
  intro c hc
  have hs := hc.1
  have hp := hc.2
  have ec : 17 * (c / 17) + c % 17 = c := by omega
  unfold pg_PX
  generalize hse : c / 17 = s at *
  generalize hpe : c % 17 = p at *
  rw [← ec, pg_fy hL f hs hp]
  refine pg_E_congr h hL hs hp (pg_byx hB) (fun _ _ _ _ => rfl) fun ht => ?_
  have l1 := (pg_lv_1 h hs (by omega) (by omega)).1
  have hb := pg_bx (pg_byx hB) hL l1 hp
  have hb2 : T (17 * (s + 1) + p) ≠ 0 → T (17 * (s + 1) + p) ≠ 1 → T (17 * (s + 1) + p) - 3 ≤ L := by
    unfold pg_bd at hb; omega
  have hb0 : T (17 * (s + 1) + p) = 0 ∨ T (17 * (s + 1) + p) = 1 ∨ p + 3 ≤ T (17 * (s + 1) + p) := by
    unfold pg_bd at hb; omega
  by_cases t12 : gt s = 12
  · rw [if_pos t12, pg_fa hL f hs hp ht, t12]
    unfold pg_Ga
    by_cases e0 : T (17 * (s + 1) + p) = 0
    · rw [e0]; simp [pg_R]
    by_cases e1 : T (17 * (s + 1) + p) = 1
    · rw [e1]; simp [pg_R]
    have h2 := hb2 e0 e1
    have e : T (17 * s + (T (17 * (s + 1) + p) - 3)) = T (17 * (s + 48) + (T (17 * (s + 1) + p) - 3)) := by
      rw [pg_fy hL f hs h2]
      unfold pg_Gd
      rw [pg_E_rep ht, if_pos t12]
    rw [e]
    exact pn_4 fun _ _ => hA s _ hs h2 ht
  · have t13 : gt s = 13 := by omega
    rw [if_neg t12, t13]
    refine pn_5 (a' := T (17 * (s + 1) + (T (17 * (s + 1) + p) - 3))) (A2 := T (17 * (s + 48) + (T (17 * (s + 1) + (T (17 * (s + 1) + p) - 3)) - 3))) hb0 ?_ ?_ ?_ ?_ ?_ ?_
    · intro h0 h1
      have := pg_bx (pg_byx hB) hL l1 (hb2 h0 h1)
      unfold pg_bd at this; omega
    · intro h0 h1
      exact pg_fa hL f hs (hb2 h0 h1) ht
    · intro h0 h1
      rw [pg_fy hL f hs (hb2 h0 h1)]
      unfold pg_Gd
      rw [pg_E_rep ht, if_neg t12]
    · intro h0 h1 h2 h3
      have := pg_bx (pg_byx hB) hL l1 (hb2 h0 h1)
      exact hA s _ hs (by unfold pg_bd at this; omega) ht
    · intro e
      rw [e, Nat.add_sub_cancel, e]
    · intro h0 h1 e
      rw [e, Nat.add_sub_cancel]
theorem pg_same {TX TY : Nat → Nat} (h : pg_WF gt gn gz) (hL : L ≤ 16) (gX : pg_Good (pg_C gz L) (pg_PX gt gn gz gm) (pg_BX gz L) TX) (fX : ∀ c, pg_C gz L c → TX c = pg_PX gt gn gz gm TX c) (gY : pg_Good (pg_CY gt gz L) (pg_PY gt gn gz gm) (pg_BY gt gz L) TY) (fY : ∀ c, pg_CY gt gz L c → TY c = pg_PY gt gn gz gm TY c) (hs : pg_lv gz s) (hp : p ≤ L) : TY (17 * s + p) = TX (17 * s + p) := by
  have h1 := gY.2.2 (pg_Q TX) (pg_Q_fix h hL gX.1 fX)
  have hA : ∀ s p, pg_lv gz s → p ≤ L → (gt s = 12 ∨ gt s = 13) → TY (17 * (s + 48) + p) ≠ 1 := by
    intro s p hs hp ht
    have h2 := h1 _ (pg_CY_a hs hp hL ht)
    rw [pg_Q_2 (by omega)] at h2
    rcases h2 with h2 | h2
    · omega
    · rw [h2]; split <;> omega
  have h3 := gX.2.2 TY (pg_Y_fix h hL gY.1 fY hA)
  have h4 := h1 _ (Or.inl (pg_C_i hs hp hL))
  have h5 := h3 _ (pg_C_i hs hp hL)
  rw [pg_Q_1 hs.1 (by omega)] at h4
  exact pg_le_as h4 h5
end
end
section
/-- a table's value as the programs write it -/
def pg_en (n : Nat) : Int32 := if n = 0 then -3 else if n = 1 then -2 else nI (n - 3)
theorem en_0 : pg_en 0 = -3 := rfl
theorem en_1 : pg_en 1 = -2 := rfl
theorem en_3 (j : Nat) : pg_en (j + 3) = nI j := by
  unfold pg_en
  rw [if_neg (by omega), if_neg (by omega), Nat.add_sub_cancel]
theorem en_n2 {j : Nat} (h : j < 2 ^ 31) : ¬ nI j = -2 := by
  intro e
  have h1 := congrArg Int32.toInt e
  rw [nI_toInt h, show (-2 : Int32).toInt = -2 from by decide] at h1
  omega
theorem en_n3 {j : Nat} (h : j < 2 ^ 31) : ¬ nI j = -3 := by
  intro e
  have h1 := congrArg Int32.toInt e
  rw [nI_toInt h, show (-3 : Int32).toInt = -3 from by decide] at h1
  omega
theorem en_np {j : Nat} (h : j < 2 ^ 31) : ¬ (-3 : Int32) = nI j := fun e => en_n3 h e.symm
theorem en_nq {j : Nat} (h : j < 2 ^ 31) : ¬ (-2 : Int32) = nI j := fun e => en_n2 h e.symm
theorem pg_bd3 {L p a : Nat} (h : pg_bd L p a) : a = 0 ∨ a = 1 ∨ ∃ j, p ≤ j ∧ j ≤ L ∧ a = j + 3 := by
  unfold pg_bd at h
  rcases h with h | h | h
  · exact Or.inl h
  · exact Or.inr (Or.inl h)
  · exact Or.inr (Or.inr ⟨a - 3, by omega, by omega, by omega⟩)
def pg_GX (gt gn gz : Nat → Nat) (tk af rs : Nat → Int32) : Prop := (∀ s, pg_lv gz s → tk s = nI (gt s) ∧ af s = nI (gn s)) ∧ ∀ r, r < 4 → rs r = nI (gz r)
/-- does the slot's letter stand at p? -/
def pg_m (gt : Nat → Nat) (tx : Nat → Int32) (L : Nat) (s p : Nat) : Bool :=
  decide (p < L ∧ ((gt s = 3 ∧ ¬ tx p < nI (gt (s + 1)) ∧ ¬ nI (gt (s + 2)) < tx p) ∨ (gt s ≠ 3 ∧ (gt s = 1 ∨ nI (gt s) = tx p))))
theorem pg_m_L {gt : Nat → Nat} {tx : Nat → Int32} {L : Nat} : ∀ s p, pg_m gt tx L s p = true → p < L := fun _ _ h => (of_decide_eq_true h).1
def pg_TX (oc : Nat → Int32) (T : Nat → Nat) : Prop := ∀ c, c < 816 → oc c = pg_en (T c)
section
variable {gt gn gz : Nat → Nat} {gm : Nat → Nat → Bool} {L s p : Nat} {T : Nat → Nat}
theorem pg_lv_3 (h : pg_WF gt gn gz) (hs : pg_lv gz s) (ht : gt s = 3) : pg_lv gz (s + 1) ∧ pg_lv gz (s + 2) := by
  obtain ⟨_, _, _, _, _, h6⟩ := h.2 s hs
  obtain ⟨h6, _⟩ := h6 ht
  have hz := h.1 (s / 12) (by have := hs.1; omega)
  have hs1 := hs.1
  have e1 : (s + 1) / 12 = s / 12 := by omega
  have e2 : (s + 2) / 12 = s / 12 := by omega
  refine ⟨⟨by omega, ?_⟩, ⟨by omega, ?_⟩⟩
  · rw [e1]; omega
  · rw [e2]; omega
theorem pF_10 (ht : gt s = 10) : pg_F gt gn gz gm T s p = if T (17 * (s + 1) + p) < 3 then T (17 * (s + 1) + p) else T (17 * gn (s + 1) + (T (17 * (s + 1) + p) - 3)) := by
  unfold pg_F pg_E; rw [if_pos ht]
theorem pF_11 (ht : gt s = 11) : pg_F gt gn gz gm T s p = if T (17 * (s + 1) + p) = 1 then T (17 * gn (s + 1) + p) else T (17 * (s + 1) + p) := by
  unfold pg_F pg_E; rw [if_neg (by omega), if_pos ht]
theorem pF_12 (ht : gt s = 12 ∨ gt s = 13) : pg_F gt gn gz gm T s p = pg_R (gt s) (T (17 * (s + 1) + p)) p (T (17 * s + (T (17 * (s + 1) + p) - 3))) := pg_E_rep ht
theorem pF_14 (ht : gt s = 14) : pg_F gt gn gz gm T s p = if T (17 * (s + 1) + p) = 1 then p + 3 else T (17 * (s + 1) + p) := by
  unfold pg_F pg_E; rw [if_neg (by omega), if_neg (by omega), if_neg (by omega), if_pos ht]
theorem pF_15 (ht : gt s = 15) : pg_F gt gn gz gm T s p = if T (17 * (s + 1) + p) < 3 then T (17 * (s + 1) + p) else p + 3 := by
  unfold pg_F pg_E; rw [if_neg (by omega), if_neg (by omega), if_neg (by omega), if_neg (by omega), if_pos ht]
theorem pF_16 (ht : gt s = 16) : pg_F gt gn gz gm T s p = if T (17 * (s + 1) + p) = 0 then 0 else if T (17 * (s + 1) + p) = 1 then p + 3 else 1 := by
  unfold pg_F pg_E; rw [if_neg (by omega), if_neg (by omega), if_neg (by omega), if_neg (by omega), if_neg (by omega), if_pos ht]
theorem pF_20 (ht : 20 ≤ gt s ∧ gt s ≤ 23) : pg_F gt gn gz gm T s p = if gz (gt s - 20) = 0 then 1 else T (17 * (12 * (gt s - 20)) + p) := by
  unfold pg_F pg_E; rw [if_neg (by omega), if_neg (by omega), if_neg (by omega), if_neg (by omega), if_neg (by omega), if_neg (by omega), if_pos ht]
theorem pF_2 (ht : gt s = 2) : pg_F gt gn gz gm T s p = p + 3 := by
  unfold pg_F pg_E; rw [if_neg (by omega), if_neg (by omega), if_neg (by omega), if_neg (by omega), if_neg (by omega), if_neg (by omega), if_neg (by omega), if_pos ht]
theorem pF_m (ht : gt s = 1 ∨ gt s = 3 ∨ 97 ≤ gt s) : pg_F gt gn gz gm T s p = if gm s p then p + 4 else 1 := by
  unfold pg_F pg_E; rw [if_neg (by omega), if_neg (by omega), if_neg (by omega), if_neg (by omega), if_neg (by omega), if_neg (by omega), if_neg (by omega), if_neg (by omega)]
end
section
variable {pc ln nc sc : Int32} {pd pa tk af rs tx oc nr ns ne nd ss sp sd : Nat → Int32} {post : Int32 → Prop} {x y : Int32}
theorem px_oA (s p : Nat) (hx : x = nI s) (hy : y = nI p) (hs : s < 48) (hp : p < 17) (h : post (oc (17 * s + p))) : wpX_outcomeAt post (pc, ln, nc, sc, pd, pa, tk, af, rs, tx, oc, nr, ns, ne, nd, ss, sp, sd) x y := by
  subst hx hy
  have e : nI s * 17 + nI p = nI (17 * s + p) := by rw [show (17 : Int32) = nI 17 from rfl, pk_mul, nI_add, Nat.mul_comm]
  refine br_f (nI_pos (by omega)) (br_f (nI_ge (b := 48) hs (by decide)) (br_f (nI_pos (by omega)) (br_f (nI_ge (b := 17) hp (by decide)) (br_f (by decide) ?_))))
  rw [e, nI_clamp (by omega)]
  exact ⟨vp_in_nI (by omega) (by decide), h⟩
theorem px_rO (r p z : Nat) (hx : x = nI r) (hy : y = nI p) (hr : r < 4) (hp : p < 17) (hz : rs r = nI z) (hz2 : z ≤ 12) (h : post (if z = 0 then -2 else oc (17 * (12 * r) + p))) : wpX_ruleOutcome post (pc, ln, nc, sc, pd, pa, tk, af, rs, tx, oc, nr, ns, ne, nd, ss, sp, sd) x y := by
  subst hx hy
  have e : nI r * 12 = nI (12 * r) := by rw [show (12 : Int32) = nI 12 from rfl, pk_mul, Nat.mul_comm]
  refine ⟨vp_in_nI hr (by decide), ?_⟩
  rw [nI_clamp (by omega), hz]
  by_cases z0 : z = 0
  · rw [if_pos z0] at h
    refine br_t (by rw [z0]; rfl) h
  · rw [if_neg z0] at h
    refine br_f (nI_ne0 (by omega) (by omega)) (px_oA (12 * r) p e rfl (by omega) hp h)
theorem px_sP (s : Nat) (hx : x = nI s) (hs : s + 1 < 48) (h : post (af (s + 1))) : wpX_secondPart post (pc, ln, nc, sc, pd, pa, tk, af, rs, tx, oc, nr, ns, ne, nd, ss, sp, sd) x := by
  subst hx
  refine pk_le 48 (s + 1) (fun h => absurd h (by omega)) (fun _ => ?_) rfl (nI_1 s)
  rw [nI_1, nI_clamp (by omega)]
  exact ⟨vp_in_nI hs (by decide), h⟩
theorem px_hL (p L : Nat) (hx : x = nI p) (hln : ln = nI L) (hp : p < 2 ^ 31) (hL : L ≤ 16) (h : post (if p < L then 1 else 0)) : wpX_hasLetter post (pc, ln, nc, sc, pd, pa, tk, af, rs, tx, oc, nr, ns, ne, nd, ss, sp, sd) x := by
  subst hx hln
  refine br_f (nI_pos hp) (pk_le L p (fun h1 => ?_) (fun h1 => ?_))
  · rw [if_neg (by omega)] at h; exact h
  · rw [if_pos (by omega)] at h; exact h
section
variable {gt gn gz : Nat → Nat} {L s p : Nat} {T : Nat → Nat}
theorem px_seq (hw : pg_WF gt gn gz) (hL : L ≤ 16) (hG : pg_GX gt gn gz tk af rs) (hB : pg_BX gz L T) (hT : pg_TX oc T) (hs : pg_lv gz s) (hp : p ≤ L) (ht : gt s = 10) {gm : Nat → Nat → Bool} (h : post (pg_en (pg_F gt gn gz gm T s p))) : wpX_sequenceOutcome post (pc, ln, nc, sc, pd, pa, tk, af, rs, tx, oc, nr, ns, ne, nd, ss, sp, sd) (nI s) (nI p) := by
  have l1 := (pg_lv_1 hw hs (by omega) (by omega)).1
  have l2 := (pg_lv_2 hw hs (Or.inl ht)).1
  have hb := pg_bx hB hL l1 hp
  have hl1 := l1.1
  have hl2 := l2.1
  unfold wpX_sequenceOutcome
  refine px_oA (s + 1) p (nI_1 s) rfl hl1 (by omega) ?_
  refine px_sP s rfl hl1 ?_
  rw [hT _ (by omega), (hG.1 _ l1).2]
  rw [pF_10 ht] at h
  rcases pg_bd3 hb with e | e | ⟨j, h1, h2, e⟩
  · rw [e] at h ⊢; exact br_t (by decide) h
  · rw [e] at h ⊢; exact br_t (by decide) h
  · rw [e] at h ⊢
    rw [if_neg (by omega), Nat.add_sub_cancel] at h
    rw [en_3]
    refine br_f (nI_pos (by omega)) (px_oA _ j rfl rfl hl2 (by omega) ?_)
    rw [hT _ (by omega)]; exact h
theorem px_cho (hw : pg_WF gt gn gz) (hL : L ≤ 16) (hG : pg_GX gt gn gz tk af rs) (hB : pg_BX gz L T) (hT : pg_TX oc T) (hs : pg_lv gz s) (hp : p ≤ L) (ht : gt s = 11) {gm : Nat → Nat → Bool} (h : post (pg_en (pg_F gt gn gz gm T s p))) : wpX_choiceOutcome post (pc, ln, nc, sc, pd, pa, tk, af, rs, tx, oc, nr, ns, ne, nd, ss, sp, sd) (nI s) (nI p) := by
  have l1 := (pg_lv_1 hw hs (by omega) (by omega)).1
  have l2 := (pg_lv_2 hw hs (Or.inr ht)).1
  have hb := pg_bx hB hL l1 hp
  have hl1 := l1.1
  have hl2 := l2.1
  unfold wpX_choiceOutcome
  refine px_oA (s + 1) p (nI_1 s) rfl hl1 (by omega) ?_
  refine px_sP s rfl hl1 ?_
  rw [hT _ (by omega), (hG.1 _ l1).2]
  rw [pF_11 ht] at h
  rcases pg_bd3 hb with e | e | ⟨j, h1, h2, e⟩
  · rw [e] at h ⊢; exact br_f (by decide) h
  · rw [e] at h ⊢
    refine br_t (by decide) (px_oA _ p rfl rfl hl2 (by omega) ?_)
    rw [hT _ (by omega)]; exact h
  · rw [e] at h ⊢
    rw [if_neg (by omega)] at h
    rw [en_3] at h ⊢
    exact br_f (en_n2 (by omega)) h
theorem px_rep (hw : pg_WF gt gn gz) (hL : L ≤ 16) (hG : pg_GX gt gn gz tk af rs) (hB : pg_BX gz L T) (hT : pg_TX oc T) (hs : pg_lv gz s) (hp : p ≤ L) (ht : gt s = 12 ∨ gt s = 13) {gm : Nat → Nat → Bool} (h : post (pg_en (pg_F gt gn gz gm T s p))) : wpX_repeatOutcome post (pc, ln, nc, sc, pd, pa, tk, af, rs, tx, oc, nr, ns, ne, nd, ss, sp, sd) (nI s) (nI p) := by
  have l1 := (pg_lv_1 hw hs (by omega) (by omega)).1
  have hb := pg_bx hB hL l1 hp
  have hl1 := l1.1
  have hs1 := hs.1
  unfold wpX_repeatOutcome
  refine px_oA (s + 1) p (nI_1 s) rfl hl1 (by omega) ?_
  rw [hT _ (by omega)]
  rw [pF_12 ht] at h
  unfold pg_R at h
  rcases pg_bd3 hb with e | e | ⟨j, h1, h2, e⟩
  · rw [e] at h ⊢; exact br_f (by decide) (br_t (by decide) h)
  · rw [e] at h ⊢
    refine br_t (by decide) ⟨vp_in_nI hs1 (by decide), ?_⟩
    rw [nI_clamp (by omega), (hG.1 _ hs).1]
    rw [if_pos rfl] at h
    rcases ht with ht | ht
    · rw [ht] at h ⊢; rw [if_pos rfl, en_3] at h; exact br_t (by decide) h
    · rw [ht] at h ⊢; rw [if_neg (by decide)] at h; exact br_f (by decide) h
  · rw [e] at h ⊢
    rw [if_neg (by omega), if_neg (by omega), Nat.add_sub_cancel] at h
    rw [en_3]
    refine br_f (en_n2 (by omega)) (br_f (en_n3 (by omega)) (pk_eq j p (fun e3 => ?_) (fun e3 => ?_)))
    · rw [if_pos (by omega), en_3, ← e3] at h; exact h
    · rw [if_neg (by omega)] at h
      refine px_oA s j rfl rfl hs1 (by omega) ?_
      rw [hT _ (by omega)]
      have hb2 := pg_bx hB hL hs h2
      rcases pg_bd3 hb2 with f | f | ⟨i, h3, h4, f⟩
      · rw [f] at h ⊢; exact br_f (by decide) h
      · rw [f] at h ⊢; rw [if_pos rfl, en_3] at h; exact br_t (by decide) h
      · rw [f] at h ⊢; rw [if_neg (by omega), en_3] at h; rw [en_3]; exact br_f (en_n2 (by omega)) h
theorem px_opt (hw : pg_WF gt gn gz) (hL : L ≤ 16) (hG : pg_GX gt gn gz tk af rs) (hB : pg_BX gz L T) (hT : pg_TX oc T) (hs : pg_lv gz s) (hp : p ≤ L) (ht : gt s = 14 ∨ gt s = 15 ∨ gt s = 16) {gm : Nat → Nat → Bool} (h : post (pg_en (pg_F gt gn gz gm T s p))) : wpX_optionOrAheadOutcome post (pc, ln, nc, sc, pd, pa, tk, af, rs, tx, oc, nr, ns, ne, nd, ss, sp, sd) (nI s) (nI p) := by
  have l1 := (pg_lv_1 hw hs (by omega) (by omega)).1
  have hb := pg_bx hB hL l1 hp
  have hl1 := l1.1
  have hs1 := hs.1
  refine ⟨vp_in_nI hs1 (by decide), nm_r (e' := nI (gt s)) (by rw [nI_clamp (by omega)]; exact (hG.1 _ hs).1) ?_⟩
  refine px_oA (s + 1) p (nI_1 s) rfl hl1 (by omega) ?_
  rw [hT _ (by omega)]
  rcases ht with ht | ht | ht
  · rw [pF_14 ht] at h
    rw [ht]
    rcases pg_bd3 hb with e | e | ⟨j, h1, h2, e⟩
    · rw [e] at h ⊢; exact br_t (by decide) h
    · rw [e] at h ⊢; rw [if_pos rfl, en_3] at h; exact br_f (by decide) (br_t (by decide) (br_f (by decide) h))
    · rw [e] at h ⊢
      rw [if_neg (by omega), en_3] at h
      rw [en_3]
      exact br_f (en_n3 (by omega)) (br_f (en_n2 (by omega)) (br_t (by decide) h))
  · rw [pF_15 ht] at h
    rw [ht]
    rcases pg_bd3 hb with e | e | ⟨j, h1, h2, e⟩
    · rw [e] at h ⊢; exact br_t (by decide) h
    · rw [e] at h ⊢; exact br_f (by decide) (br_t (by decide) (br_t (by decide) h))
    · rw [e] at h ⊢
      rw [if_neg (by omega), en_3] at h
      rw [en_3]
      exact br_f (en_n3 (by omega)) (br_f (en_n2 (by omega)) (br_f (by decide) (br_t (by decide) h)))
  · rw [pF_16 ht] at h
    rw [ht]
    rcases pg_bd3 hb with e | e | ⟨j, h1, h2, e⟩
    · rw [e] at h ⊢; exact br_t (by decide) h
    · rw [e] at h ⊢; rw [if_neg (by decide), if_pos rfl, en_3] at h; exact br_f (by decide) (br_t (by decide) (br_f (by decide) h))
    · rw [e] at h ⊢
      rw [if_neg (by omega), if_neg (by omega)] at h
      rw [en_3]
      exact br_f (en_n3 (by omega)) (br_f (en_n2 (by omega)) (br_f (by decide) (br_f (by decide) h)))
theorem px_lm (hw : pg_WF gt gn gz) (hL : L ≤ 16) (hln : ln = nI L) (hG : pg_GX gt gn gz tk af rs) (hs : pg_lv gz s) (hp : p ≤ L) (h : post (if pg_m gt tx L s p then 1 else 0)) : wpX_letterIsMeant post (pc, ln, nc, sc, pd, pa, tk, af, rs, tx, oc, nr, ns, ne, nd, ss, sp, sd) (nI s) (nI p) := by
  have hs1 := hs.1
  unfold wpX_letterIsMeant
  refine px_hL p L rfl hln (by omega) hL ?_
  by_cases h1 : p < L
  · rw [if_pos h1]
    refine br_f (by decide) ⟨vp_in_nI (by omega) (by decide), nm_r (e' := tx p) (by rw [nI_clamp (by omega)]) ⟨vp_in_nI hs1 (by decide), nm_r (e' := nI (gt s)) (by rw [nI_clamp (by omega)]; exact (hG.1 _ hs).1) ?_⟩⟩
    have htv : gt s < 2 ^ 31 := by
      have := (hw.2 s hs).2.1
      unfold pg_tv at this
      omega
    refine pk_eq (gt s) 3 (fun t3 => ?_) (fun t3 => ?_) rfl rfl htv
    · obtain ⟨l1, l2⟩ := pg_lv_3 hw hs t3
      have hl1 := l1.1
      have hl2 := l2.1
      have e2 : nI s + 2 = nI (s + 2) := by rw [show (2 : Int32) = nI 2 from rfl, nI_add]
      rw [nI_1, e2, nI_clamp (by omega), nI_clamp (by omega), (hG.1 _ l1).1, (hG.1 _ l2).1]
      refine br_f (nI_ge (b := 48) (by omega) (by decide)) ⟨vp_in_nI (by omega) (by decide), br_c (fun h2 => ?_) (fun h2 => ⟨vp_in_nI (by omega) (by decide), br_c (fun h3 => ?_) (fun h3 => ?_)⟩)⟩
      · rw [show pg_m gt tx L s p = false from decide_eq_false (by rintro ⟨_, ⟨_, h3, _⟩ | ⟨h3, _⟩⟩; exact h3 h2; exact h3 t3)] at h; exact h
      · rw [show pg_m gt tx L s p = false from decide_eq_false (by rintro ⟨_, ⟨_, _, h4⟩ | ⟨h4, _⟩⟩; exact h4 h3; exact h4 t3)] at h; exact h
      · rw [show pg_m gt tx L s p = true from decide_eq_true ⟨h1, Or.inl ⟨t3, h2, h3⟩⟩] at h; exact h
    · refine pk_eq (gt s) 1 (fun t1 => ?_) (fun t1 => ?_) rfl rfl htv
      · rw [show pg_m gt tx L s p = true from decide_eq_true ⟨h1, Or.inr ⟨t3, Or.inl t1⟩⟩] at h; exact h
      · refine br_c (fun h2 => ?_) (fun h2 => ?_)
        · rw [show pg_m gt tx L s p = true from decide_eq_true ⟨h1, Or.inr ⟨t3, Or.inr h2⟩⟩] at h; exact h
        · rw [show pg_m gt tx L s p = false from decide_eq_false (by rintro ⟨_, ⟨h4, _⟩ | ⟨_, h4 | h4⟩⟩; exact t3 h4; exact t1 h4; exact h2 h4)] at h; exact h
  · rw [if_neg h1]
    refine br_t rfl ?_
    rw [show pg_m gt tx L s p = false from decide_eq_false (fun h2 => h1 h2.1)] at h; exact h
theorem px_130 (hw : pg_WF gt gn gz) (hL : L ≤ 16) (hln : ln = nI L) (hG : pg_GX gt gn gz tk af rs) (hs : pg_lv gz s) (hp : p ≤ L) (ht : gt s = 1 ∨ gt s = 3 ∨ 97 ≤ gt s) (h : post (pg_en (pg_F gt gn gz (pg_m gt tx L) T s p))) : wX_deriveOutcome_130 post (nI s) (nI p) pc ln nc sc pd pa tk af rs tx oc nr ns ne nd ss sp sd := by
  unfold wX_deriveOutcome_130
  refine px_lm hw hL hln hG hs hp ?_
  rw [pF_m ht] at h
  by_cases hm : pg_m gt tx L s p = true
  · rw [if_pos hm]; rw [if_pos hm, show p + 4 = (p + 1) + 3 from rfl, en_3] at h
    refine br_f (by decide) ?_
    rw [nI_1]; exact h
  · rw [if_neg hm]; rw [if_neg hm] at h
    exact br_t rfl h
theorem px_dO (hw : pg_WF gt gn gz) (hL : L ≤ 16) (hln : ln = nI L) (hG : pg_GX gt gn gz tk af rs) (hB : pg_BX gz L T) (hT : pg_TX oc T) (hs : pg_lv gz s) (hp : p ≤ L) (h : post (pg_en (pg_F gt gn gz (pg_m gt tx L) T s p))) : wpX_deriveOutcome post (pc, ln, nc, sc, pd, pa, tk, af, rs, tx, oc, nr, ns, ne, nd, ss, sp, sd) (nI s) (nI p) := by
  have hs1 := hs.1
  refine ⟨vp_in_nI hs1 (by decide), nm_r (e' := nI (gt s)) (by rw [nI_clamp (by omega)]; exact (hG.1 _ hs).1) ?_⟩
  have htv := (hw.2 s hs).2.1
  unfold pg_tv at htv
  rcases htv with ht | ht | ht | ht | ht | ht
  · rw [ht]
    repeat (first | refine br_t (by decide) ?_ | refine br_f (by decide) ?_)
    exact px_130 hw hL hln hG hs hp (by omega) h
  · rw [ht]
    repeat (first | refine br_t (by decide) ?_ | refine br_f (by decide) ?_)
    rw [pF_2 ht, en_3] at h; exact h
  · rw [ht]
    repeat (first | refine br_t (by decide) ?_ | refine br_f (by decide) ?_)
    exact px_130 hw hL hln hG hs hp (by omega) h
  · have h7 : gt s = 10 ∨ gt s = 11 ∨ gt s = 12 ∨ gt s = 13 ∨ gt s = 14 ∨ gt s = 15 ∨ gt s = 16 := by omega
    rcases h7 with ht | ht | ht | ht | ht | ht | ht
    · rw [ht]
      repeat (first | refine br_t (by decide) ?_ | refine br_f (by decide) ?_)
      exact px_seq hw hL hG hB hT hs hp ht h
    · rw [ht]
      repeat (first | refine br_t (by decide) ?_ | refine br_f (by decide) ?_)
      exact px_cho hw hL hG hB hT hs hp ht h
    · rw [ht]
      repeat (first | refine br_t (by decide) ?_ | refine br_f (by decide) ?_)
      exact px_rep hw hL hG hB hT hs hp (by omega) h
    · rw [ht]
      repeat (first | refine br_t (by decide) ?_ | refine br_f (by decide) ?_)
      exact px_rep hw hL hG hB hT hs hp (by omega) h
    · rw [ht]
      repeat (first | refine br_t (by decide) ?_ | refine br_f (by decide) ?_)
      exact px_opt hw hL hG hB hT hs hp (by omega) h
    · rw [ht]
      repeat (first | refine br_t (by decide) ?_ | refine br_f (by decide) ?_)
      exact px_opt hw hL hG hB hT hs hp (by omega) h
    · rw [ht]
      repeat (first | refine br_t (by decide) ?_ | refine br_f (by decide) ?_)
      exact px_opt hw hL hG hB hT hs hp (by omega) h
  · refine br_f (nI_nlt (b := 20) (by omega) (by omega)) (br_f (nI_ge (b := 24) (by omega) (by omega)) (br_f (by decide) ?_))
    refine px_rO (gt s - 20) p (gz (gt s - 20)) ?_ rfl (by omega) (by omega) (hG.2 _ (by omega)) (hw.1 _ (by omega)) ?_
    · exact pk_sub (b := 20) (by omega)
    · rw [pF_20 ht] at h
      by_cases z : gz (gt s - 20) = 0
      · rw [if_pos z] at h ⊢; exact h
      · rw [if_neg z] at h ⊢
        rw [hT _ (by omega)]; exact h
  · refine br_f (nI_nlt (b := 20) (by omega) (by omega)) (br_t (nI_le (a := 24) (by omega) (by omega)) (br_t rfl ?_))
    refine br_f (nI_nlt (b := 2) (by omega) (by omega)) (br_t (nI_lt (a := 16) (by omega) (by omega)) ?_)
    exact px_130 hw hL hln hG hs hp (by omega) h
end
end
end
section
theorem pq_pm (k : Nat) : nI k + (-1) = nI k - 1 := (Int32.sub_eq_add_neg _ _).symm
theorem pq_nb {x : Nat} (h : x ≤ 1) : narrow .boolean (.int (nI x)) = .int (nI x) := by
  have h2 : x = 0 ∨ x = 1 := by omega
  rcases h2 with rfl | rfl
  · rfl
  · rfl
theorem pg_en_0 {n : Nat} (h : pg_bd 16 0 n) (h0 : n ≠ 0) : ¬ pg_en n = -3 := by
  rcases pg_bd3 h with e | e | ⟨j, _, _, e⟩
  · exact absurd e h0
  · rw [e]; decide
  · rw [e, en_3]; exact en_n3 (by omega)
theorem pg_bdw {L p n : Nat} (hL : L ≤ 16) (h : pg_bd L p n) : pg_bd 16 0 n := by unfold pg_bd at *; omega
theorem pg_TX_set {oc : Nat → Int32} {T : Nat → Nat} {c v : Nat} (h : pg_TX oc T) : pg_TX (upd oc c (pg_en v)) (pu_set T c v) := by
  intro d hd
  by_cases e : d = c
  · subst e; rw [pk_us, pu_s]
  · rw [pk_un e, pu_n e]; exact h d hd
theorem pg_TX_0 {oc : Nat → Int32} {T : Nat → Nat} {c : Nat} (h : pg_TX oc T) (h0 : T c = 0) : pg_TX (upd oc c (pg_en 0)) T := by
  intro d hd
  by_cases e : d = c
  · subst e; rw [pk_us, h0]
  · rw [pk_un e]; exact h d hd
section
variable {pc ln nc sc : Int32} {pd pa tk af rs tx nr ns ne nd ss sp sd : Nat → Int32}
variable {gt gn gz : Nat → Nat} {L p : Nat} {T0 : Nat → Nat}
theorem px_18 (hw : pg_WF gt gn gz) (hL : L ≤ 16) (hln : ln = nI L) (hG : pg_GX gt gn gz tk af rs) (hp : p ≤ L) {r : Nat} (hr : r < 4) : ∀ k, k ≤ gz r → ∀ (oc : Nat → Int32) (T : Nat → Nat) (x : Nat), pg_Rn (pg_C gz L) (pg_PX gt gn gz (pg_m gt tx L)) (pg_BX gz L) (fun c => c % 17 = p) (fun c => c % 17 = p ∧ 12 * r + k ≤ c / 17) T0 T x → pg_TX oc T → ∃ (oc' : Nat → Int32) (T' : Nat → Nat) (x' : Nat), pg_Rn (pg_C gz L) (pg_PX gt gn gz (pg_m gt tx L)) (pg_BX gz L) (fun c => c % 17 = p) (fun c => c % 17 = p ∧ 12 * r ≤ c / 17) T0 T' x' ∧ pg_TX oc' T' ∧ ∀ (post : Int32 → SX → Prop) (J4 : Int32 → Int32 → (Nat → Int32) → (Nat → Int32) → (Nat → Int32) → (Nat → Int32) → (Nat → Int32) → (Nat → Int32) → (Nat → Int32) → (Nat → Int32) → (Nat → Int32) → (Nat → Int32) → (Nat → Int32) → (Nat → Int32) → (Nat → Int32) → (Nat → Int32) → Prop) (n : Nat), k < n → J4 (nI x') (nI r + (-1)) pd pa tk af rs tx oc' nr ns ne nd ss sp sd → wX_settleRound_18 post J4 (nI p) (nI r) pc ln nc sc n (nI x) (nI k - 1) pd pa tk af rs tx oc nr ns ne nd ss sp sd := by
  intro k
  induction k with
  | zero =>
    intro _ oc T x hR hT
    refine ⟨oc, T, x, hR, hT, fun post J4 n hn hJ => ?_⟩
    obtain ⟨m, rfl⟩ : ∃ m, n = m + 1 := ⟨n - 1, by omega⟩
    exact br_t (by decide) (nm_e hJ)
  | succ k ih =>
    intro hk oc T x hR hT
    have hz := hw.1 r hr
    have hlv : pg_lv gz (12 * r + k) := by
      have e : (12 * r + k) / 12 = r := by omega
      refine ⟨by omega, ?_⟩
      rw [e]; omega
    have hB := hR.1.1
    have hx1 := hR.2.2.2.2.2
    have hc := pg_C_i hlv hp hL
    have ec1 : (17 * (12 * r + k) + p) / 17 = 12 * r + k := by omega
    have ec2 : (17 * (12 * r + k) + p) % 17 = p := by omega
    have eP : pg_PX gt gn gz (pg_m gt tx L) T (17 * (12 * r + k) + p) = pg_F gt gn gz (pg_m gt tx L) T (12 * r + k) p := by
      unfold pg_PX; rw [ec1, ec2]
    have e12 : nI r * 12 + nI k = nI (12 * r + k) := by rw [show (12 : Int32) = nI 12 from rfl, pk_mul, nI_add, Nat.mul_comm]
    have e17 : nI (12 * r + k) * 17 + nI p = nI (17 * (12 * r + k) + p) := by rw [show (17 : Int32) = nI 17 from rfl, pk_mul, nI_add, Nat.mul_comm]
    by_cases h0 : T (17 * (12 * r + k) + p) = 0
    · by_cases hz0 : pg_F gt gn gz (pg_m gt tx L) T (12 * r + k) p = 0
      · have hR' : pg_Rn (pg_C gz L) (pg_PX gt gn gz (pg_m gt tx L)) (pg_BX gz L) (fun c => c % 17 = p) (fun c => c % 17 = p ∧ 12 * r + k ≤ c / 17) T0 T x := by
          refine pg_rn_zero (c := 17 * (12 * r + k) + p) hR (eP.trans hz0) fun d hd => ?_
          by_cases e : d = 17 * (12 * r + k) + p
          · exact Or.inr e
          · exact Or.inl ⟨hd.1, by omega⟩
        obtain ⟨oc', T', x', h1, h2, h3⟩ := ih (by omega) (upd oc (17 * (12 * r + k) + p) (pg_en 0)) T x hR' (pg_TX_0 hT h0)
        refine ⟨oc', T', x', h1, h2, fun post J4 n hn hJ => ?_⟩
        obtain ⟨m, rfl⟩ : ∃ m, n = m + 1 := ⟨n - 1, by omega⟩
        have h4 := h3 post J4 m (by omega) hJ
        rw [nI_pred]
        refine br_f (nI_pos (by omega)) (nm_r e12 (px_oA (12 * r + k) p rfl rfl hlv.1 (by omega) ?_))
        rw [hT _ (by omega), h0]
        refine br_t (by decide) (px_dO hw hL hln hG hB hT hlv hp ?_)
        rw [hz0, e17, nI_clamp (by omega)]
        refine ⟨vp_in_nI (by omega) (by decide), nm_e ?_⟩
        have h01 : x = 0 ∨ x = 1 := by omega
        rcases h01 with rfl | rfl
        · exact br_t (by decide) (br_t (by decide) (nm_r (pq_pm k) h4))
        · exact br_f (by decide) (nm_r (pq_pm k) h4)
      · have hR' := pg_rn_set (V' := fun c => c % 17 = p ∧ 12 * r + k ≤ c / 17) (pg_monoX hw hL) (pg_keepX hw hL pg_m_L) hR hc ec2 h0 (by rw [eP]; exact hz0)
        rw [eP] at hR'
        have hbd := pg_bdw hL (pg_F_bd (gm := pg_m gt tx L) hw hL pg_m_L hlv hp hB)
        obtain ⟨oc', T', x', h1, h2, h3⟩ := ih (by omega) _ _ 1 hR' (pg_TX_set hT)
        refine ⟨oc', T', x', h1, h2, fun post J4 n hn hJ => ?_⟩
        obtain ⟨m, rfl⟩ : ∃ m, n = m + 1 := ⟨n - 1, by omega⟩
        have h4 := h3 post J4 m (by omega) hJ
        rw [nI_pred]
        refine br_f (nI_pos (by omega)) (nm_r e12 (px_oA (12 * r + k) p rfl rfl hlv.1 (by omega) ?_))
        rw [hT _ (by omega), h0]
        refine br_t (by decide) (px_dO hw hL hln hG hB hT hlv hp ?_)
        rw [e17, nI_clamp (by omega)]
        refine ⟨vp_in_nI (by omega) (by decide), nm_e ?_⟩
        have h01 : x = 0 ∨ x = 1 := by omega
        rcases h01 with rfl | rfl
        · exact br_t (by decide) (br_f (pg_en_0 hbd hz0) (nm_r (pq_pm k) h4))
        · exact br_f (by decide) (nm_r (pq_pm k) h4)
    · have hR' : pg_Rn (pg_C gz L) (pg_PX gt gn gz (pg_m gt tx L)) (pg_BX gz L) (fun c => c % 17 = p) (fun c => c % 17 = p ∧ 12 * r + k ≤ c / 17) T0 T x := by
        refine pg_rn_skip hR fun d hd => ?_
        by_cases e : d = 17 * (12 * r + k) + p
        · rw [e]; exact Or.inr (Or.inl h0)
        · exact Or.inl ⟨hd.1, by omega⟩
      obtain ⟨oc', T', x', h1, h2, h3⟩ := ih (by omega) oc T x hR' hT
      refine ⟨oc', T', x', h1, h2, fun post J4 n hn hJ => ?_⟩
      obtain ⟨m, rfl⟩ : ∃ m, n = m + 1 := ⟨n - 1, by omega⟩
      have h4 := h3 post J4 m (by omega) hJ
      rw [nI_pred]
      refine br_f (nI_pos (by omega)) (nm_r e12 (px_oA (12 * r + k) p rfl rfl hlv.1 (by omega) ?_))
      rw [hT _ (by omega)]
      have hbd := pg_bdw hL (pg_bx hB hL hlv hp)
      exact br_f (pg_en_0 hbd h0) (nm_r (pq_pm k) h4)
theorem px_4 (hw : pg_WF gt gn gz) (hL : L ≤ 16) (hln : ln = nI L) (hG : pg_GX gt gn gz tk af rs) (hp : p ≤ L) : ∀ k, k ≤ 4 → ∀ (oc : Nat → Int32) (T : Nat → Nat) (x : Nat), pg_Rn (pg_C gz L) (pg_PX gt gn gz (pg_m gt tx L)) (pg_BX gz L) (fun c => c % 17 = p) (fun c => c % 17 = p ∧ 12 * k ≤ c / 17) T0 T x → pg_TX oc T → ∃ (oc' : Nat → Int32) (T' : Nat → Nat) (x' : Nat), pg_Rn (pg_C gz L) (pg_PX gt gn gz (pg_m gt tx L)) (pg_BX gz L) (fun c => c % 17 = p) (fun c => c % 17 = p) T0 T' x' ∧ pg_TX oc' T' ∧ ∀ (post : Int32 → SX → Prop) (n : Nat), k < n → post (nI x') (pc, ln, nc, sc, pd, pa, tk, af, rs, tx, oc', nr, ns, ne, nd, ss, sp, sd) → wX_settleRound_4 post (nI p) pc ln nc sc n (nI x) (nI k - 1) pd pa tk af rs tx oc nr ns ne nd ss sp sd := by
  intro k
  induction k with
  | zero =>
    intro _ oc T x hR hT
    refine ⟨oc, T, x, pg_rn_skip hR fun c hc => Or.inl ⟨hc, by omega⟩, hT, fun post n hn hJ => ?_⟩
    obtain ⟨m, rfl⟩ : ∃ m, n = m + 1 := ⟨n - 1, by omega⟩
    exact br_t (by decide) ⟨pq_nb hR.2.2.2.2.2, hJ⟩
  | succ k ih =>
    intro hk oc T x hR hT
    have hR1 : pg_Rn (pg_C gz L) (pg_PX gt gn gz (pg_m gt tx L)) (pg_BX gz L) (fun c => c % 17 = p) (fun c => c % 17 = p ∧ 12 * k + gz k ≤ c / 17) T0 T x := by
      refine pg_rn_skip hR fun c hc => ?_
      by_cases h : 12 * (k + 1) ≤ c / 17
      · exact Or.inl ⟨hc.1, h⟩
      · refine Or.inr (Or.inr fun h2 => ?_)
        have h3 := h2.1.2
        have hz := hw.1 k (by omega)
        have e : c / 17 / 12 = k := by omega
        rw [e] at h3
        omega
    obtain ⟨oc1, T1, x1, h1, h2, h3⟩ := px_18 (pc := pc) (nc := nc) (sc := sc) (pd := pd) (pa := pa) (nr := nr) (ns := ns) (ne := ne) (nd := nd) (ss := ss) (sp := sp) (sd := sd) hw hL hln hG hp (r := k) (by omega) (gz k) (Nat.le_refl _) oc T x hR1 hT
    obtain ⟨oc', T', x', h4, h5, h6⟩ := ih (by omega) oc1 T1 x1 h1 h2
    refine ⟨oc', T', x', h4, h5, fun post n hn hJ => ?_⟩
    obtain ⟨m, rfl⟩ : ∃ m, n = m + 1 := ⟨n - 1, by omega⟩
    rw [nI_pred]
    refine br_f (nI_pos (by omega)) ⟨vp_in_nI (by omega) (by decide), nm_r (e' := nI (gz k) - 1) (by rw [nI_clamp (by omega), hG.2 k (by omega)]) ⟨gz k + 1, h3 post _ _ (by omega) ?_⟩⟩
    rw [pq_pm]
    exact h6 post m (by omega) hJ
theorem px_sR (hw : pg_WF gt gn gz) (hL : L ≤ 16) (hln : ln = nI L) (hG : pg_GX gt gn gz tk af rs) (hp : p ≤ L) (oc : Nat → Int32) (T : Nat → Nat) (hg : pg_Good (pg_C gz L) (pg_PX gt gn gz (pg_m gt tx L)) (pg_BX gz L) T) (hT : pg_TX oc T) : ∃ (oc' : Nat → Int32) (T' : Nat → Nat) (x' : Nat), pg_Rn (pg_C gz L) (pg_PX gt gn gz (pg_m gt tx L)) (pg_BX gz L) (fun c => c % 17 = p) (fun c => c % 17 = p) T T' x' ∧ pg_TX oc' T' ∧ ∀ (post : Int32 → SX → Prop), post (nI x') (pc, ln, nc, sc, pd, pa, tk, af, rs, tx, oc', nr, ns, ne, nd, ss, sp, sd) → wpX_settleRound post (pc, ln, nc, sc, pd, pa, tk, af, rs, tx, oc, nr, ns, ne, nd, ss, sp, sd) (nI p) := by
  obtain ⟨oc', T', x', h1, h2, h3⟩ := px_4 (pc := pc) (nc := nc) (sc := sc) (pd := pd) (pa := pa) (nr := nr) (ns := ns) (ne := ne) (nd := nd) (ss := ss) (sp := sp) (sd := sd) (T0 := T) hw hL hln hG hp 4 (Nat.le_refl 4) oc T 0 (pg_rn_0 hg fun c hc h => by have := h.1.1; omega) hT
  exact ⟨oc', T', x', h1, h2, fun post hp => ⟨5, h3 post 5 (by omega) hp⟩⟩
theorem px_36 (hw : pg_WF gt gn gz) (hL : L ≤ 16) (hln : ln = nI L) (hG : pg_GX gt gn gz tk af rs) (hp : p ≤ L) : ∀ m (oc : Nat → Int32) (T : Nat → Nat) (i : Nat), pg_Good (pg_C gz L) (pg_PX gt gn gz (pg_m gt tx L)) (pg_BX gz L) T → pg_TX oc T → pg_cn (fun s => T (17 * s + p)) 48 ≤ m → pg_cn (fun s => T (17 * s + p)) 48 + i ≤ 48 → ∃ (oc' : Nat → Int32) (T' : Nat → Nat), pg_Good (pg_C gz L) (pg_PX gt gn gz (pg_m gt tx L)) (pg_BX gz L) T' ∧ pg_TX oc' T' ∧ (∀ c, ¬ c % 17 = p → T' c = T c) ∧ (∀ c, c % 17 = p → pg_C gz L c → T' c = 0 → pg_PX gt gn gz (pg_m gt tx L) T' c = 0) ∧ ∀ (post : SX → Prop) (J28 : Int32 → Int32 → Int32 → Int32 → Int32 → (Nat → Int32) → (Nat → Int32) → (Nat → Int32) → (Nat → Int32) → (Nat → Int32) → (Nat → Int32) → (Nat → Int32) → (Nat → Int32) → (Nat → Int32) → (Nat → Int32) → (Nat → Int32) → (Nat → Int32) → (Nat → Int32) → (Nat → Int32) → Prop) (n : Nat), m + 1 < n → J28 (nI p + (-1)) pc ln nc sc pd pa tk af rs tx oc' nr ns ne nd ss sp sd → wX_settleOutcomes_36 post J28 (nI p) n 1 (nI i) pc ln nc sc pd pa tk af rs tx oc nr ns ne nd ss sp sd := by
  intro m
  induction m with
  | zero =>
    intro oc T i hg hT h0 hi
    obtain ⟨oc1, T1, x1, h1, h2, h3⟩ := px_sR (pc := pc) (nc := nc) (sc := sc) (pd := pd) (pa := pa) (nr := nr) (ns := ns) (ne := ne) (nd := nd) (ss := ss) (sp := sp) (sd := sd) hw hL hln hG hp oc T hg hT
    obtain ⟨r1, r2, r3, r4, r5, r6⟩ := h1
    by_cases hx : x1 = 0
    · subst hx
      obtain ⟨e, r7⟩ := r4 rfl
      refine ⟨oc1, T1, r1, h2, r3, fun c hc => by rw [e]; exact r7 c hc, fun post J28 n hn hJ => ?_⟩
      obtain ⟨m, rfl⟩ : ∃ m, n = m + 1 + 1 := ⟨n - 2, by omega⟩
      exact br_f (by decide) (br_f (nI_nlt (b := 48) (a := 48) (by omega) (by omega) |> fun _ => nI_nlt (a := 48) (b := i) (by omega) (by omega)) (h3 _ (nm_r (nI_1 i) (br_t (by decide) (nm_e hJ)))))
    · obtain ⟨c, q1, q2, q3, q4⟩ := r5 hx
      have hlt := pg_cn_lt (f := fun s => T (17 * s + p)) (f' := fun s => T1 (17 * s + p)) (k := c / 17) (by show T (17 * (c / 17) + p) = 0; rw [← q2, Nat.div_add_mod]; exact q3) (by show T1 (17 * (c / 17) + p) ≠ 0; rw [← q2, Nat.div_add_mod]; exact q4) 48 q1.1.1 (fun k hk h => by
        show T (17 * k + p) = 0
        by_cases e : T (17 * k + p) = 0
        · exact e
        · rw [← r2 _ e]; exact h)
      omega
  | succ m ih =>
    intro oc T i hg hT h0 hi
    obtain ⟨oc1, T1, x1, h1, h2, h3⟩ := px_sR (pc := pc) (nc := nc) (sc := sc) (pd := pd) (pa := pa) (nr := nr) (ns := ns) (ne := ne) (nd := nd) (ss := ss) (sp := sp) (sd := sd) hw hL hln hG hp oc T hg hT
    obtain ⟨r1, r2, r3, r4, r5, r6⟩ := h1
    by_cases hx : x1 = 0
    · subst hx
      obtain ⟨e, r7⟩ := r4 rfl
      refine ⟨oc1, T1, r1, h2, r3, fun c hc => by rw [e]; exact r7 c hc, fun post J28 n hn hJ => ?_⟩
      obtain ⟨m, rfl⟩ : ∃ m, n = m + 1 + 1 := ⟨n - 2, by omega⟩
      exact br_f (by decide) (br_f (nI_nlt (a := 48) (b := i) (by omega) (by omega)) (h3 _ (nm_r (nI_1 i) (br_t (by decide) (nm_e hJ)))))
    · obtain ⟨c, q1, q2, q3, q4⟩ := r5 hx
      have hlt := pg_cn_lt (f := fun s => T (17 * s + p)) (f' := fun s => T1 (17 * s + p)) (k := c / 17) (by show T (17 * (c / 17) + p) = 0; rw [← q2, Nat.div_add_mod]; exact q3) (by show T1 (17 * (c / 17) + p) ≠ 0; rw [← q2, Nat.div_add_mod]; exact q4) 48 q1.1.1 (fun k hk h => by
        show T (17 * k + p) = 0
        by_cases e : T (17 * k + p) = 0
        · exact e
        · rw [← r2 _ e]; exact h)
      have hx1 : x1 = 1 := by omega
      subst hx1
      obtain ⟨oc', T', g1, g2, g3, g4, g5⟩ := ih oc1 T1 (i + 1) r1 h2 (by omega) (by omega)
      refine ⟨oc', T', g1, g2, fun c hc => (g3 c hc).trans (r3 c hc), g4, fun post J28 n hn hJ => ?_⟩
      obtain ⟨n, rfl⟩ : ∃ n', n = n' + 1 := ⟨n - 1, by omega⟩
      exact br_f (by decide) (br_f (nI_nlt (a := 48) (b := i) (by omega) (by omega)) (h3 _ (nm_r (nI_1 i) (g5 post J28 n (by omega) hJ))))
theorem px_28 (hw : pg_WF gt gn gz) (hL : L ≤ 16) (hln : ln = nI L) (hG : pg_GX gt gn gz tk af rs) : ∀ k, k ≤ L + 1 → ∀ (oc : Nat → Int32) (T : Nat → Nat), pg_Good (pg_C gz L) (pg_PX gt gn gz (pg_m gt tx L)) (pg_BX gz L) T → pg_TX oc T → (∀ c, k ≤ c % 17 → pg_C gz L c → T c = 0 → pg_PX gt gn gz (pg_m gt tx L) T c = 0) → ∃ (oc' : Nat → Int32) (T' : Nat → Nat), pg_Good (pg_C gz L) (pg_PX gt gn gz (pg_m gt tx L)) (pg_BX gz L) T' ∧ pg_TX oc' T' ∧ (∀ c, pg_C gz L c → T' c = 0 → pg_PX gt gn gz (pg_m gt tx L) T' c = 0) ∧ ∀ (post : SX → Prop) (n : Nat), k < n → post (pc, ln, nc, sc, pd, pa, tk, af, rs, tx, oc', nr, ns, ne, nd, ss, sp, sd) → wX_settleOutcomes_28 post n (nI k - 1) pc ln nc sc pd pa tk af rs tx oc nr ns ne nd ss sp sd := by
  intro k
  induction k with
  | zero =>
    intro _ oc T hg hT hc
    refine ⟨oc, T, hg, hT, fun c => hc c (by omega), fun post n hn hJ => ?_⟩
    obtain ⟨m, rfl⟩ : ∃ m, n = m + 1 := ⟨n - 1, by omega⟩
    exact br_t (by decide) hJ
  | succ k ih =>
    intro hk oc T hg hT hc
    have hcn := pg_cn_le (fun s => T (17 * s + k)) 48
    obtain ⟨oc1, T1, h1, h2, h3, h4, h5⟩ := px_36 (pc := pc) (nc := nc) (sc := sc) (pd := pd) (pa := pa) (nr := nr) (ns := ns) (ne := ne) (nd := nd) (ss := ss) (sp := sp) (sd := sd) hw hL hln hG (p := k) (by omega) 48 oc T 0 hg hT hcn hcn
    have hc1 : ∀ c, k ≤ c % 17 → pg_C gz L c → T1 c = 0 → pg_PX gt gn gz (pg_m gt tx L) T1 c = 0 := by
      intro c hkc hC h0
      by_cases e : c % 17 = k
      · exact h4 c e hC h0
      · rw [h3 c e] at h0
        rw [← hc c (by omega) hC h0]
        refine pg_F_loc hw hL hC.1 hC.2 h1.1 hg.1 fun s' q a b c' => h3 _ ?_
        omega
    obtain ⟨oc', T', g1, g2, g3, g4⟩ := ih (by omega) oc1 T1 h1 h2 hc1
    refine ⟨oc', T', g1, g2, g3, fun post n hn hJ => ?_⟩
    obtain ⟨m, rfl⟩ : ∃ m, n = m + 1 := ⟨n - 1, by omega⟩
    rw [nI_pred]
    refine br_f (nI_pos (by omega)) ⟨50, h5 post _ 50 (by omega) ?_⟩
    rw [pq_pm]
    exact g4 post m (by omega) hJ
theorem px_2 : ∀ d i, i + d = 816 → ∀ (oc : Nat → Int32), (∀ c, c < i → oc c = -3) → ∃ oc' : Nat → Int32, (∀ c, c < 816 → oc' c = -3) ∧ ∀ (post : SX → Prop) (n : Nat), d < n → (∃ n28, wX_settleOutcomes_28 post n28 ln pc ln nc sc pd pa tk af rs tx oc' nr ns ne nd ss sp sd) → wX_settleOutcomes_2 post pc ln nc sc n (nI i) pd pa tk af rs tx oc nr ns ne nd ss sp sd := by
  intro d
  induction d with
  | zero =>
    intro i hi oc h
    refine ⟨oc, fun c hc => h c (by omega), fun post n hn hJ => ?_⟩
    obtain ⟨m, rfl⟩ : ∃ m, n = m + 1 := ⟨n - 1, by omega⟩
    exact br_t (nI_le (a := 816) (by omega) (by omega)) hJ
  | succ d ih =>
    intro i hi oc h
    obtain ⟨oc', h1, h2⟩ := ih (i + 1) (by omega) (upd oc i (-3)) (fun c hc => by
      by_cases e : c = i
      · subst e; exact pk_us
      · rw [pk_un e]; exact h c (by omega))
    refine ⟨oc', h1, fun post n hn hJ => ?_⟩
    obtain ⟨m, rfl⟩ : ∃ m, n = m + 1 := ⟨n - 1, by omega⟩
    refine br_f (nI_ge (b := 816) (by omega) (by omega)) ⟨vp_in_nI (by omega) (by decide), ?_⟩
    rw [nI_clamp (by omega)]
    exact nm_e (nm_r (nI_1 i) (h2 post m (by omega) hJ))
theorem px_settle (hw : pg_WF gt gn gz) (hL : L ≤ 16) (hln : ln = nI L) (hG : pg_GX gt gn gz tk af rs) (oc : Nat → Int32) : ∃ (oc' : Nat → Int32) (T' : Nat → Nat), pg_Good (pg_C gz L) (pg_PX gt gn gz (pg_m gt tx L)) (pg_BX gz L) T' ∧ pg_TX oc' T' ∧ (∀ c, pg_C gz L c → T' c = pg_PX gt gn gz (pg_m gt tx L) T' c) ∧ ∀ (post : SX → Prop), post (pc, ln, nc, sc, pd, pa, tk, af, rs, tx, oc', nr, ns, ne, nd, ss, sp, sd) → wpX_settleOutcomes post (pc, ln, nc, sc, pd, pa, tk, af, rs, tx, oc, nr, ns, ne, nd, ss, sp, sd) := by
  obtain ⟨oc1, h1, h2⟩ := px_2 (pc := pc) (ln := ln) (nc := nc) (sc := sc) (pd := pd) (pa := pa) (tk := tk) (af := af) (rs := rs) (tx := tx) (nr := nr) (ns := ns) (ne := ne) (nd := nd) (ss := ss) (sp := sp) (sd := sd) 816 0 (by omega) oc (fun c hc => absurd hc (by omega))
  have hg : pg_Good (pg_C gz L) (pg_PX gt gn gz (pg_m gt tx L)) (pg_BX gz L) (fun _ => 0) := pg_zero (fun c _ => Or.inl rfl)
  obtain ⟨oc', T', g1, g2, g3, g4⟩ := px_28 (pc := pc) (nc := nc) (sc := sc) (pd := pd) (pa := pa) (nr := nr) (ns := ns) (ne := ne) (nd := nd) (ss := ss) (sp := sp) (sd := sd) hw hL hln hG (L + 1) (Nat.le_refl _) oc1 (fun _ => 0) hg (fun c hc => h1 c hc) (fun c h3 h4 => absurd h4.2 (by omega))
  refine ⟨oc', T', g1, g2, pg_fix g1 g3, fun post hJ => ⟨817, h2 post 817 (by omega) ⟨L + 2, ?_⟩⟩⟩
  have := g4 post (L + 2) (by omega) hJ
  rw [nI_pred] at this
  rw [hln]
  rw [hln] at this
  exact this
end
end
section
def pg_GY (gt gn gz : Nat → Nat) (tok nxt len : Nat → Int32) : Prop := (∀ s, pg_lv gz s → tok s = nI (gt s) ∧ nxt s = nI (gn s)) ∧ ∀ r, r < 4 → len r = nI (gz r)
def pg_TY (dos ag : Nat → Int32) (T : Nat → Nat) : Prop := (∀ c, c < 816 → dos c = pg_en (T c)) ∧ ∀ c, c < 816 → ag c = pg_en (T (816 + c))
/-- the text holds letters -/
def pg_X (tx : Nat → Int32) (L : Nat) : Prop := ∀ i, i < L → (97 : Int32) ≤ tx i
section
variable {gt gn gz : Nat → Nat} {gm : Nat → Nat → Bool} {L s p rep : Nat} {T : Nat → Nat}
theorem pE_10 (ht : gt s = 10) : pg_E gt gn gz gm rep T s p = if T (17 * (s + 1) + p) < 3 then T (17 * (s + 1) + p) else T (17 * gn (s + 1) + (T (17 * (s + 1) + p) - 3)) := by
  unfold pg_E; rw [if_pos ht]
theorem pE_11 (ht : gt s = 11) : pg_E gt gn gz gm rep T s p = if T (17 * (s + 1) + p) = 1 then T (17 * gn (s + 1) + p) else T (17 * (s + 1) + p) := by
  unfold pg_E; rw [if_neg (by omega), if_pos ht]
theorem pE_14 (ht : gt s = 14) : pg_E gt gn gz gm rep T s p = if T (17 * (s + 1) + p) = 1 then p + 3 else T (17 * (s + 1) + p) := by
  unfold pg_E; rw [if_neg (by omega), if_neg (by omega), if_neg (by omega), if_pos ht]
theorem pE_15 (ht : gt s = 15) : pg_E gt gn gz gm rep T s p = if T (17 * (s + 1) + p) < 3 then T (17 * (s + 1) + p) else p + 3 := by
  unfold pg_E; rw [if_neg (by omega), if_neg (by omega), if_neg (by omega), if_neg (by omega), if_pos ht]
theorem pE_16 (ht : gt s = 16) : pg_E gt gn gz gm rep T s p = if T (17 * (s + 1) + p) = 0 then 0 else if T (17 * (s + 1) + p) = 1 then p + 3 else 1 := by
  unfold pg_E; rw [if_neg (by omega), if_neg (by omega), if_neg (by omega), if_neg (by omega), if_neg (by omega), if_pos ht]
theorem pE_20 (ht : 20 ≤ gt s ∧ gt s ≤ 23) : pg_E gt gn gz gm rep T s p = if gz (gt s - 20) = 0 then 1 else T (17 * (12 * (gt s - 20)) + p) := by
  unfold pg_E; rw [if_neg (by omega), if_neg (by omega), if_neg (by omega), if_neg (by omega), if_neg (by omega), if_neg (by omega), if_pos ht]
theorem pE_2 (ht : gt s = 2) : pg_E gt gn gz gm rep T s p = p + 3 := by
  unfold pg_E; rw [if_neg (by omega), if_neg (by omega), if_neg (by omega), if_neg (by omega), if_neg (by omega), if_neg (by omega), if_neg (by omega), if_pos ht]
theorem pE_m (ht : gt s = 1 ∨ gt s = 3 ∨ 97 ≤ gt s) : pg_E gt gn gz gm rep T s p = if gm s p then p + 4 else 1 := by
  unfold pg_E; rw [if_neg (by omega), if_neg (by omega), if_neg (by omega), if_neg (by omega), if_neg (by omega), if_neg (by omega), if_neg (by omega), if_neg (by omega)]
end
theorem pq_17 (s p : Nat) : 17 * nI s + nI p = nI (17 * s + p) := by rw [show (17 : Int32) = nI 17 from rfl, pk_mul, nI_add]
theorem pq_817 (s p : Nat) : 816 + (17 * s + p) = 17 * (s + 48) + p := by omega
section
variable {yl yt yk : Int32} {tok len nxt tx dos ag tc tp td kp : Nat → Int32} {post : Int32 → Prop} {x y : Int32}
variable {gt gn gz : Nat → Nat} {L s p : Nat} {T : Nat → Nat}
theorem py_36 {x1 x3 z : Int32} (hL : L ≤ 16) (hl : yl = nI L) (hp : p ≤ L) (h1 : p < L → wY_follows_56 post x1 (nI p) x3 z (tx p) yl yt yk tok len nxt tx dos ag tc tp td kp) (h2 : ¬ p < L → wY_follows_56 post x1 (nI p) x3 z 0 yl yt yk tok len nxt tx dos ag tc tp td kp) : wY_follows_36 post x1 (nI p) x3 z yl yt yk tok len nxt tx dos ag tc tp td kp := by
  subst hl
  refine pk_le L p (fun h => h2 (by omega)) (fun h => ⟨vp_in_nI (by omega) (by decide), ?_⟩)
  rw [nI_clamp (by omega)]
  exact h1 h
theorem py_a (hw : pg_WF gt gn gz) (hT : pg_TY dos ag T) (hs : pg_lv gz s) (hp : p < 17) {x1 : Int32} (hx : x1 = nI s) {P : Int32 → Prop} (h1 : 10 ≤ gt s) (h2 : gt s ≤ 16) (h : P (pg_en (T (17 * (s + 1) + p)))) : vp_in ((17 * (x1 + 1)) + nI p) 816 ∧ P (dos ((17 * (x1 + 1)) + nI p).toNatClampNeg) := by
  subst hx
  have l1 := (pg_lv_1 hw hs h1 h2).1.1
  rw [nI_1, pq_17, nI_clamp (by omega), hT.1 _ (by omega)]
  exact ⟨vp_in_nI (by omega) (by decide), h⟩
theorem py_fo (hw : pg_WF gt gn gz) (hL : L ≤ 16) (hl : yl = nI L) (hX : pg_X tx L) (hG : pg_GY gt gn gz tok nxt len) (hB : pg_BY gt gz L T) (hT : pg_TY dos ag T) (hs : pg_lv gz s) (hp : p ≤ L) (h : post (pg_en (pg_Gd gt gn gz (pg_m gt tx L) T s p))) : wpY_follows post (yl, yt, yk, tok, len, nxt, tx, dos, ag, tc, tp, td, kp) (nI s) (nI p) := by
  have hs1 := hs.1
  refine ⟨vp_in_nI (by omega) (by decide), nm_r (e' := nI (gt s)) (by rw [nI_clamp (by omega)]; exact (hG.1 _ hs).1) ?_⟩
  have htv := (hw.2 s hs).2.1
  unfold pg_tv at htv
  unfold pg_Gd at h
  have h97 : ∀ t : Nat, 97 ≤ t → t ≤ 122 → (0 : Int32) < nI t := fun t h1 h2 => nI_lt (a := 0) (by omega) (by omega)
  rcases htv with ht | ht | ht | ht | ht | ht
  · rw [ht]
    refine br_t (by decide) ?_
    rw [pE_m (by omega)] at h
    refine py_36 hL hl hp (fun h1 => ?_) (fun h1 => ?_)
    · rw [show pg_m gt tx L s p = true from decide_eq_true ⟨h1, Or.inr ⟨by omega, Or.inl ht⟩⟩, if_pos rfl, show p + 4 = (p + 1) + 3 from rfl, en_3] at h
      repeat (first | refine br_t (by decide) ?_ | refine br_f (by decide) ?_)
      refine br_f (fun h2 => ?_) (by rw [nI_1]; exact h)
      exact absurd (Int32.le_trans (hX p h1) h2) (by decide)
    · rw [show pg_m gt tx L s p = false from decide_eq_false (fun h2 => h1 h2.1)] at h
      repeat (first | refine br_t (by decide) ?_ | refine br_f (by decide) ?_)
      exact h
  · rw [ht]
    refine br_t (by decide) ?_
    rw [pE_2 ht, en_3] at h
    refine py_36 hL hl hp (fun h1 => ?_) (fun h1 => ?_)
    · repeat (first | refine br_t (by decide) ?_ | refine br_f (by decide) ?_)
      exact h
    · repeat (first | refine br_t (by decide) ?_ | refine br_f (by decide) ?_)
      exact h
  · rw [ht]
    refine br_t (by decide) ?_
    rw [pE_m (by omega)] at h
    obtain ⟨l1, l2⟩ := pg_lv_3 hw hs ht
    have hl1 := l1.1
    have hl2 := l2.1
    have e2 : nI s + 2 = nI (s + 2) := by rw [show (2 : Int32) = nI 2 from rfl, nI_add]
    refine py_36 hL hl hp (fun h1 => ?_) (fun h1 => ?_)
    · repeat (first | refine br_t (by decide) ?_ | refine br_f (by decide) ?_)
      rw [nI_1, e2, nI_clamp (by omega), nI_clamp (by omega), (hG.1 _ l1).1, (hG.1 _ l2).1]
      refine ⟨vp_in_nI (by omega) (by decide), br_c (fun h2 => ?_) (fun h2 => ⟨vp_in_nI (by omega) (by decide), br_c (fun h3 => ?_) (fun h3 => ?_)⟩)⟩
      · rw [show pg_m gt tx L s p = false from decide_eq_false (by rintro ⟨_, ⟨_, h3, _⟩ | ⟨h3, _⟩⟩; exact h3 h2; exact h3 ht)] at h; exact h
      · rw [show pg_m gt tx L s p = false from decide_eq_false (by rintro ⟨_, ⟨_, _, h4⟩ | ⟨h4, _⟩⟩; exact h4 h3; exact h4 ht)] at h; exact h
      · rw [show pg_m gt tx L s p = true from decide_eq_true ⟨h1, Or.inl ⟨ht, h2, h3⟩⟩, if_pos rfl, show p + 4 = (p + 1) + 3 from rfl, en_3] at h; rw [nI_1]; exact h
    · rw [show pg_m gt tx L s p = false from decide_eq_false (fun h2 => h1 h2.1)] at h
      have h6 := ((hw.2 s hs).2.2.2.2.2 ht).2.1
      have h7 := (hw.2 _ l1).2.1
      unfold pg_tv at h7
      repeat (first | refine br_t (by decide) ?_ | refine br_f (by decide) ?_)
      rw [nI_1, nI_clamp (by omega), (hG.1 _ l1).1]
      exact ⟨vp_in_nI (by omega) (by decide), br_t (h97 _ (by omega) (by omega)) h⟩
  · have l1 := (pg_lv_1 hw hs (by omega) (by omega)).1
    have hl1 := l1.1
    have hb := pg_bx (pg_byx hB) hL l1 hp
    have h7 : gt s = 10 ∨ gt s = 11 ∨ gt s = 12 ∨ gt s = 13 ∨ gt s = 14 ∨ gt s = 15 ∨ gt s = 16 := by omega
    rcases h7 with ht | ht | ht | ht | ht | ht | ht
    · have l2 := (pg_lv_2 hw hs (Or.inl ht)).1
      have hl2 := l2.1
      rw [ht]
      refine br_f (by decide) (br_f (by decide) (py_a hw hT hs (by omega) rfl (P := fun z => wY_follows_36 post (nI s) (nI p) (nI 10) z yl yt yk tok len nxt tx dos ag tc tp td kp) (by omega) (by omega) ?_))
      rw [pE_10 ht] at h
      have key : ∀ c : Int32, wY_follows_56 post (nI s) (nI p) (nI 10) (pg_en (T (17 * (s + 1) + p))) c yl yt yk tok len nxt tx dos ag tc tp td kp := by
        intro c
        iterate 2 refine br_f (by decide) ?_
        iterate 9 refine br_f (by decide) ?_
        refine br_t (by decide) ?_
        rcases pg_bd3 hb with e | e | ⟨j, h1, h2, e⟩
        · rw [e] at h ⊢; exact br_f (by decide) h
        · rw [e] at h ⊢; exact br_f (by decide) h
        · rw [e] at h ⊢
          rw [if_neg (by omega), Nat.add_sub_cancel] at h
          rw [en_3, nI_1, nI_clamp (by omega), (hG.1 _ l1).2, pq_17, nI_clamp (by omega), hT.1 _ (by omega)]
          exact br_t (nI_pos' (by omega)) ⟨vp_in_nI (by omega) (by decide), vp_in_nI (by omega) (by decide), h⟩
      exact py_36 hL hl hp (fun _ => key _) (fun _ => key _)
    · have l2 := (pg_lv_2 hw hs (Or.inr ht)).1
      have hl2 := l2.1
      rw [ht]
      refine br_f (by decide) (br_f (by decide) (py_a hw hT hs (by omega) rfl (P := fun z => wY_follows_36 post (nI s) (nI p) (nI 11) z yl yt yk tok len nxt tx dos ag tc tp td kp) (by omega) (by omega) ?_))
      rw [pE_11 ht] at h
      have key : ∀ c : Int32, wY_follows_56 post (nI s) (nI p) (nI 11) (pg_en (T (17 * (s + 1) + p))) c yl yt yk tok len nxt tx dos ag tc tp td kp := by
        intro c
        iterate 12 refine br_f (by decide) ?_
        refine br_t (by decide) ?_
        rcases pg_bd3 hb with e | e | ⟨j, h1, h2, e⟩
        · rw [e] at h ⊢; exact br_f (by decide) h
        · rw [e] at h ⊢
          rw [nI_1, nI_clamp (by omega), (hG.1 _ l1).2, pq_17, nI_clamp (by omega), hT.1 _ (by omega)]
          exact br_t (by decide) ⟨vp_in_nI (by omega) (by decide), vp_in_nI (by omega) (by decide), h⟩
        · rw [e] at h ⊢
          rw [if_neg (by omega), en_3] at h
          rw [en_3]
          exact br_f (en_n2 (by omega)) h
      exact py_36 hL hl hp (fun _ => key _) (fun _ => key _)
    · rw [ht]
      refine br_f (by decide) (br_f (by decide) (py_a hw hT hs (by omega) rfl (P := fun z => wY_follows_36 post (nI s) (nI p) (nI 12) z yl yt yk tok len nxt tx dos ag tc tp td kp) (by omega) (by omega) ?_))
      rw [pg_E_rep (Or.inl ht), if_pos ht] at h
      have key : ∀ c : Int32, wY_follows_56 post (nI s) (nI p) (nI 12) (pg_en (T (17 * (s + 1) + p))) c yl yt yk tok len nxt tx dos ag tc tp td kp := by
        intro c
        iterate 13 refine br_f (by decide) ?_
        refine br_t (by decide) ?_
        rw [pq_17, nI_clamp (by omega), hT.2 _ (by omega), pq_817]
        exact ⟨vp_in_nI (by omega) (by decide), h⟩
      exact py_36 hL hl hp (fun _ => key _) (fun _ => key _)
    · rw [ht]
      refine br_f (by decide) (br_f (by decide) (py_a hw hT hs (by omega) rfl (P := fun z => wY_follows_36 post (nI s) (nI p) (nI 13) z yl yt yk tok len nxt tx dos ag tc tp td kp) (by omega) (by omega) ?_))
      rw [pg_E_rep (Or.inr ht), if_neg (by omega)] at h
      have key : ∀ c : Int32, wY_follows_56 post (nI s) (nI p) (nI 13) (pg_en (T (17 * (s + 1) + p))) c yl yt yk tok len nxt tx dos ag tc tp td kp := by
        intro c
        iterate 14 refine br_f (by decide) ?_
        refine br_t (by decide) ?_
        rcases pg_bd3 hb with e | e | ⟨j, h1, h2, e⟩
        · rw [e] at h ⊢; exact br_f (by decide) h
        · rw [e] at h ⊢; exact br_f (by decide) h
        · rw [e] at h ⊢
          rw [if_neg (by omega), Nat.add_sub_cancel] at h
          rw [en_3, pq_17, nI_clamp (by omega), hT.2 _ (by omega), pq_817]
          exact br_t (nI_pos' (by omega)) ⟨vp_in_nI (by omega) (by decide), h⟩
      exact py_36 hL hl hp (fun _ => key _) (fun _ => key _)
    · rw [ht]
      refine br_f (by decide) (br_f (by decide) (py_a hw hT hs (by omega) rfl (P := fun z => wY_follows_36 post (nI s) (nI p) (nI 14) z yl yt yk tok len nxt tx dos ag tc tp td kp) (by omega) (by omega) ?_))
      rw [pE_14 ht] at h
      have key : ∀ c : Int32, wY_follows_56 post (nI s) (nI p) (nI 14) (pg_en (T (17 * (s + 1) + p))) c yl yt yk tok len nxt tx dos ag tc tp td kp := by
        intro c
        iterate 15 refine br_f (by decide) ?_
        refine br_t (by decide) ?_
        rcases pg_bd3 hb with e | e | ⟨j, h1, h2, e⟩
        · rw [e] at h ⊢; exact br_f (by decide) h
        · rw [e] at h ⊢; rw [if_pos rfl, en_3] at h; exact br_t (by decide) h
        · rw [e] at h ⊢
          rw [if_neg (by omega), en_3] at h
          rw [en_3]
          exact br_f (en_n2 (by omega)) h
      exact py_36 hL hl hp (fun _ => key _) (fun _ => key _)
    · rw [ht]
      refine br_f (by decide) (br_f (by decide) (py_a hw hT hs (by omega) rfl (P := fun z => wY_follows_36 post (nI s) (nI p) (nI 15) z yl yt yk tok len nxt tx dos ag tc tp td kp) (by omega) (by omega) ?_))
      rw [pE_15 ht] at h
      have key : ∀ c : Int32, wY_follows_56 post (nI s) (nI p) (nI 15) (pg_en (T (17 * (s + 1) + p))) c yl yt yk tok len nxt tx dos ag tc tp td kp := by
        intro c
        iterate 16 refine br_f (by decide) ?_
        refine br_t (by decide) ?_
        rcases pg_bd3 hb with e | e | ⟨j, h1, h2, e⟩
        · rw [e] at h ⊢; exact br_f (by decide) h
        · rw [e] at h ⊢; exact br_f (by decide) h
        · rw [e] at h ⊢
          rw [if_neg (by omega), en_3] at h
          rw [en_3]
          exact br_t (nI_pos' (by omega)) h
      exact py_36 hL hl hp (fun _ => key _) (fun _ => key _)
    · rw [ht]
      refine br_f (by decide) (br_f (by decide) (py_a hw hT hs (by omega) rfl (P := fun z => wY_follows_36 post (nI s) (nI p) (nI 16) z yl yt yk tok len nxt tx dos ag tc tp td kp) (by omega) (by omega) ?_))
      rw [pE_16 ht] at h
      have key : ∀ c : Int32, wY_follows_56 post (nI s) (nI p) (nI 16) (pg_en (T (17 * (s + 1) + p))) c yl yt yk tok len nxt tx dos ag tc tp td kp := by
        intro c
        iterate 17 refine br_f (by decide) ?_
        refine br_t (by decide) ?_
        rcases pg_bd3 hb with e | e | ⟨j, h1, h2, e⟩
        · rw [e] at h ⊢; exact br_t (by decide) h
        · rw [e] at h ⊢; rw [if_neg (by decide), if_pos rfl, en_3] at h; exact br_f (by decide) (br_t (by decide) h)
        · rw [e] at h ⊢
          rw [if_neg (by omega), if_neg (by omega)] at h
          rw [en_3]
          exact br_f (en_n3 (by omega)) (br_f (en_n2 (by omega)) h)
      exact py_36 hL hl hp (fun _ => key _) (fun _ => key _)
  · rw [pE_20 ht] at h
    have hz := hw.1 (gt s - 20) (by omega)
    refine br_f (nI_nlt (b := 10) (by omega) (by omega)) (br_t (nI_lt (a := 16) (by omega) (by omega)) ?_)
    have key : ∀ c : Int32, wY_follows_56 post (nI s) (nI p) (nI (gt s)) 0 c yl yt yk tok len nxt tx dos ag tc tp td kp := by
      intro c
      have k2 : wY_follows_363 post (nI p) (nI (gt s)) yl yt yk tok len nxt tx dos ag tc tp td kp := by
        have e : nI (gt s) - 20 = nI (gt s - 20) := pk_sub (b := 20) (by omega)
        have e2 : 204 * nI (gt s - 20) + nI p = nI (17 * (12 * (gt s - 20)) + p) := by
          rw [show (204 : Int32) = nI 204 from rfl, pk_mul, nI_add]; exact congrArg nI (by omega)
        unfold wY_follows_363
        rw [e, nI_clamp (by omega), hG.2 _ (by omega)]
        refine ⟨vp_in_nI (by omega) (by decide), ?_⟩
        by_cases z : gz (gt s - 20) = 0
        · rw [if_pos z] at h
          exact br_t (by rw [z]; rfl) h
        · rw [if_neg z] at h
          rw [e2, nI_clamp (by omega), hT.1 _ (by omega)]
          exact br_f (nI_ne0 (by omega) (by omega)) ⟨vp_in_nI (by omega) (by decide), h⟩
      have h4 : gt s = 20 ∨ gt s = 21 ∨ gt s = 22 ∨ gt s = 23 := by omega
      rcases h4 with e | e | e | e
      · rw [e] at k2 ⊢
        iterate 21 refine br_f (by decide) ?_
        exact br_t (by decide) k2
      · rw [e] at k2 ⊢
        iterate 22 refine br_f (by decide) ?_
        exact br_t (by decide) k2
      · rw [e] at k2 ⊢
        iterate 23 refine br_f (by decide) ?_
        exact br_t (by decide) k2
      · rw [e] at k2 ⊢
        iterate 24 refine br_f (by decide) ?_
        exact br_t (by decide) k2
    exact py_36 hL hl hp (fun _ => key _) (fun _ => key _)
  · rw [pE_m (by omega)] at h
    refine br_f (nI_nlt (b := 10) (by omega) (by omega)) (br_t (nI_lt (a := 16) (by omega) (by omega)) ?_)
    refine py_36 hL hl hp (fun h1 => ?_) (fun h1 => ?_)
    · refine br_f (nI_nlt (b := 1) (by omega) (by omega)) (br_t (nI_lt (a := 23) (by omega) (by omega)) (br_c (fun h2 => ?_) (fun h2 => ?_)))
      · rw [show pg_m gt tx L s p = true from decide_eq_true ⟨h1, Or.inr ⟨by omega, Or.inr h2.symm⟩⟩, if_pos rfl, show p + 4 = (p + 1) + 3 from rfl, en_3] at h; rw [nI_1]; exact h
      · rw [show pg_m gt tx L s p = false from decide_eq_false (by rintro ⟨_, ⟨h4, _⟩ | ⟨_, h4 | h4⟩⟩; omega; omega; exact h2 h4.symm)] at h; exact h
    · rw [show pg_m gt tx L s p = false from decide_eq_false (fun h2 => h1 h2.1)] at h
      refine br_f (nI_nlt (b := 1) (by omega) (by omega)) (br_t (nI_lt (a := 23) (by omega) (by omega)) (br_f (fun h2 => ?_) h))
      have h3 := h97 (gt s) ht.1 ht.2
      rw [← h2] at h3
      exact absurd h3 (by decide)
theorem py_re (hw : pg_WF gt gn gz) (hL : L ≤ 16) (hB : pg_BY gt gz L T) (hT : pg_TY dos ag T) (hs : pg_lv gz s) (hp : p ≤ L) (ht : gt s = 12 ∨ gt s = 13) (h : post (pg_en (pg_Ga T s p))) : wpY_repeats post (yl, yt, yk, tok, len, nxt, tx, dos, ag, tc, tp, td, kp) (nI s) (nI p) := by
  have hs1 := hs.1
  have l1 := (pg_lv_1 hw hs (by omega) (by omega)).1
  have hl1 := l1.1
  have hb := pg_bx (pg_byx hB) hL l1 hp
  unfold wpY_repeats
  dsimp only
  rw [nI_1, pq_17, nI_clamp (by omega), hT.1 _ (by omega)]
  refine ⟨vp_in_nI (by omega) (by decide), nm_e ?_⟩
  unfold pg_Ga at h
  rcases pg_bd3 hb with e | e | ⟨j, h1, h2, e⟩
  · rw [e] at h ⊢; exact br_t (by decide) h
  · rw [e] at h ⊢; rw [if_neg (by decide), if_pos (Or.inl rfl), en_3] at h; exact br_f (by decide) (br_t (by decide) h)
  · rw [e] at h ⊢
    rw [if_neg (by omega), Nat.add_sub_cancel] at h
    rw [en_3]
    refine br_f (en_n3 (by omega)) (br_f (en_n2 (by omega)) (pk_eq j p (fun e3 => ?_) (fun e3 => ?_)))
    · rw [if_pos (by omega), en_3] at h; exact h
    · rw [if_neg (by omega)] at h
      rw [pq_17, nI_clamp (by omega), hT.2 _ (by omega), pq_817]
      exact ⟨vp_in_nI (by omega) (by decide), h⟩
end
end
section
section
variable {C : Nat → Prop} {Ph : (Nat → Nat) → Nat → Nat} {B : (Nat → Nat) → Prop} {W V V1 V2 : Nat → Prop} {T0 T T' : Nat → Nat} {x x' : Nat}
theorem pg_rn_comb (h1 : pg_Rn C Ph B W V T0 T x) (h2 : pg_Rn C Ph B W V1 T T' x') (hV : ∀ c, V2 c → V c ∨ V1 c) : pg_Rn C Ph B W V2 T0 T' (if x' = 0 then x else 1) := by
  obtain ⟨a1, a2, a3, a4, a5, a6⟩ := h1
  obtain ⟨b1, b2, b3, b4, b5, b6⟩ := h2
  refine ⟨b1, ?_, fun c hc => (b3 c hc).trans (a3 c hc), ?_⟩
  · intro c hc
    rw [b2 c (by rw [a2 c hc]; exact hc), a2 c hc]
  by_cases hx : x' = 0
  · rw [if_pos hx]
    obtain ⟨e, b7⟩ := b4 hx
    subst e
    refine ⟨fun h0 => ?_, a5, a6⟩
    obtain ⟨e, a7⟩ := a4 h0
    subst e
    refine ⟨rfl, fun c hc hC h0 => ?_⟩
    rcases hV c hc with h | h
    · exact a7 c h hC h0
    · exact b7 c h hC h0
  · rw [if_neg hx]
    refine ⟨fun h => absurd h (by decide), fun _ => ?_, by decide⟩
    obtain ⟨c, q1, q2, q3, q4⟩ := b5 hx
    refine ⟨c, q1, q2, ?_, q4⟩
    by_cases e : T0 c = 0
    · exact e
    · rw [a2 c e] at q3; exact absurd q3 e
end
theorem pq_or0 {x : Nat} (h : x ≤ 1) : nI x ||| 0 = nI x := by
  have h2 : x = 0 ∨ x = 1 := by omega
  rcases h2 with rfl | rfl <;> rfl
theorem pq_or1 {x : Nat} (h : x ≤ 1) : nI x ||| 1 = nI 1 := by
  have h2 : x = 0 ∨ x = 1 := by omega
  rcases h2 with rfl | rfl <;> rfl
theorem pg_TY_set {dos ag : Nat → Int32} {T : Nat → Nat} {c v : Nat} (h : pg_TY dos ag T) (hc : c < 816) : pg_TY (upd dos c (pg_en v)) ag (pu_set T c v) := by
  refine ⟨fun d hd => ?_, fun d hd => ?_⟩
  · by_cases e : d = c
    · subst e; rw [pk_us, pu_s]
    · rw [pk_un e, pu_n e]; exact h.1 d hd
  · rw [pu_n (by omega)]; exact h.2 d hd
theorem pg_TY_seta {dos ag : Nat → Int32} {T : Nat → Nat} {c v : Nat} (h : pg_TY dos ag T) : pg_TY dos (upd ag c (pg_en v)) (pu_set T (816 + c) v) := by
  refine ⟨fun d hd => ?_, fun d hd => ?_⟩
  · rw [pu_n (by omega)]; exact h.1 d hd
  · by_cases e : d = c
    · subst e; rw [pk_us, pu_s]
    · rw [pk_un e, pu_n (by omega)]; exact h.2 d hd
theorem pg_TY_0 {dos ag : Nat → Int32} {T : Nat → Nat} {c : Nat} (h : pg_TY dos ag T) (h0 : T c = 0) : pg_TY (upd dos c (pg_en 0)) ag T := by
  refine ⟨fun d hd => ?_, h.2⟩
  by_cases e : d = c
  · subst e; rw [pk_us, h0]
  · rw [pk_un e]; exact h.1 d hd
theorem pg_TY_0a {dos ag : Nat → Int32} {T : Nat → Nat} {c : Nat} (h : pg_TY dos ag T) (h0 : T (816 + c) = 0) : pg_TY dos (upd ag c (pg_en 0)) T := by
  refine ⟨h.1, fun d hd => ?_⟩
  by_cases e : d = c
  · subst e; rw [pk_us, h0]
  · rw [pk_un e]; exact h.2 d hd
section
variable {yl yt yk : Int32} {tok len nxt tx tc tp td kp : Nat → Int32}
variable {gt gn gz : Nat → Nat} {L s i : Nat} {T0 : Nat → Nat}
theorem py_87 (hw : pg_WF gt gn gz) (hL : L ≤ 16) (hl : yl = nI L) (hX : pg_X tx L) (hG : pg_GY gt gn gz tok nxt len) (hs : pg_lv gz s) (hi : i ≤ L) (dos ag : Nat → Int32) (T : Nat → Nat) (x : Nat) (hR : pg_Rn (pg_CY gt gz L) (pg_PY gt gn gz (pg_m gt tx L)) (pg_BY gt gz L) (fun _ => True) (fun c => (c / 17 % 48 = s ∧ c % 17 < i) ∨ c = 17 * (s + 48) + i) T0 T x) (hT : pg_TY dos ag T) : ∃ (dos' : Nat → Int32) (T' : Nat → Nat) (x' : Nat), pg_Rn (pg_CY gt gz L) (pg_PY gt gn gz (pg_m gt tx L)) (pg_BY gt gz L) (fun _ => True) (fun c => c / 17 % 48 = s ∧ c % 17 < i + 1) T0 T' x' ∧ pg_TY dos' ag T' ∧ ∀ (post : Int32 → SY → Prop) (J4 : Int32 → Int32 → (Nat → Int32) → (Nat → Int32) → (Nat → Int32) → (Nat → Int32) → (Nat → Int32) → (Nat → Int32) → (Nat → Int32) → (Nat → Int32) → (Nat → Int32) → (Nat → Int32) → Prop), J4 (nI x') (nI (i + 1)) tok len nxt tx dos' ag tc tp td kp → wY_fill_87 post J4 (nI s) (nI x) (nI i) (nI (17 * s + i)) yl yt yk tok len nxt tx dos ag tc tp td kp := by
  have hs1 := hs.1
  have hx1 := hR.2.2.2.2.2
  have hB := hR.1.1
  have hc := pg_C_i hs hi hL
  have ec1 : (17 * s + i) / 17 = s := by omega
  have ec2 : (17 * s + i) % 17 = i := by omega
  have eP : pg_PY gt gn gz (pg_m gt tx L) T (17 * s + i) = pg_Gd gt gn gz (pg_m gt tx L) T s i := by
    unfold pg_PY; rw [ec1, ec2, if_pos hs1]
  have hV : ∀ d, pg_CY gt gz L d → d / 17 % 48 = s ∧ d % 17 < i + 1 → ((d / 17 % 48 = s ∧ d % 17 < i) ∨ d = 17 * (s + 48) + i) ∨ d = 17 * s + i := by
    intro d hC hd
    have hd2 : d / 17 < 96 := by
      rcases hC with h | ⟨h0, h, _⟩
      · have := h.1.1; omega
      · have := h.1.1; omega
    omega
  by_cases h0 : T (17 * s + i) = 0
  · by_cases hz0 : pg_Gd gt gn gz (pg_m gt tx L) T s i = 0
    · refine ⟨upd dos (17 * s + i) (pg_en 0), T, x, ?_, pg_TY_0 hT h0, fun post J4 hJ => ?_⟩
      · have h1 : pg_Rn (pg_CY gt gz L) (pg_PY gt gn gz (pg_m gt tx L)) (pg_BY gt gz L) (fun _ => True) (fun d => ((d / 17 % 48 = s ∧ d % 17 < i) ∨ d = 17 * (s + 48) + i) ∨ d = 17 * s + i) T0 T x := pg_rn_zero (c := 17 * s + i) hR (eP.trans hz0) fun d hd => hd
        refine pg_rn_skip h1 fun d hd => ?_
        by_cases hC : pg_CY gt gz L d
        · exact Or.inl (hV d hC hd)
        · exact Or.inr (Or.inr hC)
      · unfold wY_fill_87
        rw [nI_clamp (by omega), hT.1 _ (by omega), h0]
        refine ⟨vp_in_nI (by omega) (by decide), br_t (by decide) (py_fo hw hL hl hX hG hB hT hs hi ?_)⟩
        rw [hz0]
        refine ⟨vp_in_nI (by omega) (by decide), nm_e ⟨vp_in_nI (by omega) (by decide), ?_⟩⟩
        rw [pk_us]
        exact br_t (by decide) (nm_r (pq_or0 hx1) (nm_r (nI_1 i) hJ))
    · have hR' := pg_rn_set (V' := fun c => c / 17 % 48 = s ∧ c % 17 < i + 1) (pg_monoY hw hL) (pg_keepY hw hL pg_m_L) hR (Or.inl hc) trivial h0 (by rw [eP]; exact hz0)
      rw [eP] at hR'
      have hbd := pg_bdw hL (pg_Gd_bd (gm := pg_m gt tx L) hw hL pg_m_L hs hi hB)
      refine ⟨_, _, 1, hR', pg_TY_set hT (by omega), fun post J4 hJ => ?_⟩
      unfold wY_fill_87
      rw [nI_clamp (by omega), hT.1 _ (by omega), h0]
      refine ⟨vp_in_nI (by omega) (by decide), br_t (by decide) (py_fo hw hL hl hX hG hB hT hs hi ?_)⟩
      refine ⟨vp_in_nI (by omega) (by decide), nm_e ⟨vp_in_nI (by omega) (by decide), ?_⟩⟩
      rw [pk_us]
      exact br_f (pg_en_0 hbd hz0) (nm_r (pq_or1 hx1) (nm_r (nI_1 i) hJ))
  · refine ⟨dos, T, x, ?_, hT, fun post J4 hJ => ?_⟩
    · refine pg_rn_skip hR fun d hd => ?_
      by_cases hC : pg_CY gt gz L d
      · rcases hV d hC hd with h | h
        · exact Or.inl h
        · rw [h]; exact Or.inr (Or.inl h0)
      · exact Or.inr (Or.inr hC)
    · unfold wY_fill_87
      rw [nI_clamp (by omega), hT.1 _ (by omega)]
      have hbd := pg_bdw hL (pg_bx (pg_byx hB) hL hs hi)
      exact ⟨vp_in_nI (by omega) (by decide), br_f (pg_en_0 hbd h0) (nm_r (nI_1 i) hJ)⟩
theorem py_54 (hw : pg_WF gt gn gz) (hL : L ≤ 16) (hs : pg_lv gz s) (hi : i ≤ L) (ht : gt s = 12 ∨ gt s = 13) (dos ag : Nat → Int32) (T : Nat → Nat) (x : Nat) (hR : pg_Rn (pg_CY gt gz L) (pg_PY gt gn gz (pg_m gt tx L)) (pg_BY gt gz L) (fun _ => True) (fun c => c / 17 % 48 = s ∧ c % 17 < i) T0 T x) (hT : pg_TY dos ag T) (h0 : T (17 * (s + 48) + i) = 0) : ∃ (ag' : Nat → Int32) (T' : Nat → Nat) (x' : Nat), pg_Rn (pg_CY gt gz L) (pg_PY gt gn gz (pg_m gt tx L)) (pg_BY gt gz L) (fun _ => True) (fun c => (c / 17 % 48 = s ∧ c % 17 < i) ∨ c = 17 * (s + 48) + i) T0 T' x' ∧ pg_TY dos ag' T' ∧ ∀ (post : Int32 → SY → Prop) (J4 : Int32 → Int32 → (Nat → Int32) → (Nat → Int32) → (Nat → Int32) → (Nat → Int32) → (Nat → Int32) → (Nat → Int32) → (Nat → Int32) → (Nat → Int32) → (Nat → Int32) → (Nat → Int32) → Prop), wY_fill_87 post J4 (nI s) (nI x') (nI i) (nI (17 * s + i)) yl yt yk tok len nxt tx dos ag' tc tp td kp → wY_fill_54 post J4 (nI s) (nI x) (nI i) (nI (17 * s + i)) yl yt yk tok len nxt tx dos ag tc tp td kp := by
  have hs1 := hs.1
  have hx1 := hR.2.2.2.2.2
  have hB := hR.1.1
  have hc := pg_CY_a hs hi hL ht
  have ec1 : (17 * (s + 48) + i) / 17 = s + 48 := by omega
  have ec2 : (17 * (s + 48) + i) % 17 = i := by omega
  have eP : pg_PY gt gn gz (pg_m gt tx L) T (17 * (s + 48) + i) = pg_Ga T s i := by
    unfold pg_PY; rw [ec1, ec2, if_neg (by omega), Nat.add_sub_cancel]
  by_cases hz0 : pg_Ga T s i = 0
  · refine ⟨upd ag (17 * s + i) (pg_en 0), T, x, ?_, pg_TY_0a hT (by rw [pq_817]; exact h0), fun post J4 hJ => ?_⟩
    · exact pg_rn_zero (c := 17 * (s + 48) + i) hR (eP.trans hz0) fun d hd => hd
    · unfold wY_fill_54
      refine py_re hw hL hB hT hs hi ht ?_
      rw [hz0, nI_clamp (by omega)]
      refine ⟨vp_in_nI (by omega) (by decide), nm_e ⟨vp_in_nI (by omega) (by decide), ?_⟩⟩
      rw [pk_us]
      exact br_t (by decide) (nm_r (pq_or0 hx1) hJ)
  · have hR' := pg_rn_set (V' := fun c => (c / 17 % 48 = s ∧ c % 17 < i) ∨ c = 17 * (s + 48) + i) (pg_monoY hw hL) (pg_keepY hw hL pg_m_L) hR hc trivial h0 (by rw [eP]; exact hz0)
    rw [eP] at hR'
    have hbd := pg_bdw hL (pg_Ga_bd hw hL hs hi ht hB)
    refine ⟨upd ag (17 * s + i) (pg_en (pg_Ga T s i)), _, 1, hR', by rw [← pq_817]; exact pg_TY_seta hT, fun post J4 hJ => ?_⟩
    unfold wY_fill_54
    refine py_re hw hL hB hT hs hi ht ?_
    rw [nI_clamp (by omega)]
    refine ⟨vp_in_nI (by omega) (by decide), nm_e ⟨vp_in_nI (by omega) (by decide), ?_⟩⟩
    rw [pk_us]
    exact br_f (pg_en_0 hbd hz0) (nm_r (pq_or1 hx1) hJ)
theorem py_f4 (hw : pg_WF gt gn gz) (hL : L ≤ 16) (hl : yl = nI L) (hX : pg_X tx L) (hG : pg_GY gt gn gz tok nxt len) (hs : pg_lv gz s) : ∀ d i, i + d = L + 1 → ∀ (dos ag : Nat → Int32) (T : Nat → Nat) (x : Nat), pg_Rn (pg_CY gt gz L) (pg_PY gt gn gz (pg_m gt tx L)) (pg_BY gt gz L) (fun _ => True) (fun c => c / 17 % 48 = s ∧ c % 17 < i) T0 T x → pg_TY dos ag T → ∃ (dos' ag' : Nat → Int32) (T' : Nat → Nat) (x' : Nat), pg_Rn (pg_CY gt gz L) (pg_PY gt gn gz (pg_m gt tx L)) (pg_BY gt gz L) (fun _ => True) (fun c => c / 17 % 48 = s) T0 T' x' ∧ pg_TY dos' ag' T' ∧ ∀ (post : Int32 → SY → Prop) (n : Nat), d < n → post (nI x') (yl, yt, yk, tok, len, nxt, tx, dos', ag', tc, tp, td, kp) → wY_fill_4 post (nI s) yl yt yk n (nI x) (nI i) tok len nxt tx dos ag tc tp td kp := by
  intro d
  induction d with
  | zero =>
    intro i hi dos ag T x hR hT
    refine ⟨dos, ag, T, x, ?_, hT, fun post n hn hJ => ?_⟩
    · refine pg_rn_skip hR fun c hc => ?_
      by_cases hC : pg_CY gt gz L c
      · refine Or.inl ⟨hc, ?_⟩
        rcases hC with h | ⟨h0, h, _⟩
        · have := h.2; omega
        · have := h.2; omega
      · exact Or.inr (Or.inr hC)
    · obtain ⟨m, rfl⟩ : ∃ m, n = m + 1 := ⟨n - 1, by omega⟩
      subst hl
      exact br_t (nI_lt (by omega) (by omega)) ⟨pq_nb hR.2.2.2.2.2, hJ⟩
  | succ d ih =>
    intro i hi dos ag T x hR hT
    have hs1 := hs.1
    have hB := hR.1.1
    have htv := (hw.2 s hs).2.1
    unfold pg_tv at htv
    by_cases ht : gt s = 12 ∨ gt s = 13
    · by_cases h0 : T (17 * (s + 48) + i) = 0
      · obtain ⟨ag1, T1, x1, a1, a2, a3⟩ := py_54 (yl := yl) (yt := yt) (yk := yk) (tok := tok) (len := len) (nxt := nxt) (tc := tc) (tp := tp) (td := td) (kp := kp) hw hL hs (by omega) ht dos ag T x hR hT h0
        obtain ⟨dos2, T2, x2, b1, b2, b3⟩ := py_87 (yt := yt) (yk := yk) (tc := tc) (tp := tp) (td := td) (kp := kp) hw hL hl hX hG hs (i := i) (by omega) dos ag1 T1 x1 a1 a2
        obtain ⟨dos', ag', T', x', c1, c2, c3⟩ := ih (i + 1) (by omega) dos2 ag1 T2 x2 b1 b2
        refine ⟨dos', ag', T', x', c1, c2, fun post n hn hJ => ?_⟩
        obtain ⟨m, rfl⟩ : ∃ m, n = m + 1 := ⟨n - 1, by omega⟩
        have h54 := a3 post _ (b3 post _ (c3 post m (by omega) hJ))
        refine br_f (by rw [hl]; exact nI_nlt (by omega) (by omega)) (nm_r (pq_17 s i) ⟨vp_in_nI (by omega) (by decide), ?_⟩)
        rw [nI_clamp (by omega), hT.2 _ (by omega), pq_817, h0, nI_clamp (by omega), (hG.1 _ hs).1]
        refine br_t (by decide) ⟨vp_in_nI (by omega) (by decide), ?_⟩
        rcases ht with ht | ht
        · exact br_t (by rw [ht]; rfl) h54
        · exact br_f (by rw [ht]; decide) ⟨vp_in_nI (by omega) (by decide), br_t (by rw [ht]; rfl) h54⟩
      · have hR1 : pg_Rn (pg_CY gt gz L) (pg_PY gt gn gz (pg_m gt tx L)) (pg_BY gt gz L) (fun _ => True) (fun c => (c / 17 % 48 = s ∧ c % 17 < i) ∨ c = 17 * (s + 48) + i) T0 T x := by
          refine pg_rn_skip hR fun c hc => ?_
          rcases hc with h | h
          · exact Or.inl h
          · rw [h]; exact Or.inr (Or.inl h0)
        obtain ⟨dos2, T2, x2, b1, b2, b3⟩ := py_87 (yt := yt) (yk := yk) (tc := tc) (tp := tp) (td := td) (kp := kp) hw hL hl hX hG hs (i := i) (by omega) dos ag T x hR1 hT
        obtain ⟨dos', ag', T', x', c1, c2, c3⟩ := ih (i + 1) (by omega) dos2 ag T2 x2 b1 b2
        refine ⟨dos', ag', T', x', c1, c2, fun post n hn hJ => ?_⟩
        obtain ⟨m, rfl⟩ : ∃ m, n = m + 1 := ⟨n - 1, by omega⟩
        have h87 := b3 post _ (c3 post m (by omega) hJ)
        refine br_f (by rw [hl]; exact nI_nlt (by omega) (by omega)) (nm_r (pq_17 s i) ⟨vp_in_nI (by omega) (by decide), ?_⟩)
        have hbd := pg_bdw hL (pg_by hB hL hs (p := i) (by omega) ht)
        refine br_f ?_ h87
        rw [nI_clamp (by omega), hT.2 _ (by omega), pq_817]
        exact pg_en_0 hbd h0
    · have hR1 : pg_Rn (pg_CY gt gz L) (pg_PY gt gn gz (pg_m gt tx L)) (pg_BY gt gz L) (fun _ => True) (fun c => (c / 17 % 48 = s ∧ c % 17 < i) ∨ c = 17 * (s + 48) + i) T0 T x := by
        refine pg_rn_skip hR fun c hc => ?_
        rcases hc with h | h
        · exact Or.inl h
        · refine Or.inr (Or.inr fun hC => ?_)
          rcases hC with h1 | ⟨_, _, h1⟩
          · have := h1.1.1; omega
          · have e : c / 17 - 48 = s := by omega
            rw [e] at h1; exact ht h1
      obtain ⟨dos2, T2, x2, b1, b2, b3⟩ := py_87 (yt := yt) (yk := yk) (tc := tc) (tp := tp) (td := td) (kp := kp) hw hL hl hX hG hs (i := i) (by omega) dos ag T x hR1 hT
      obtain ⟨dos', ag', T', x', c1, c2, c3⟩ := ih (i + 1) (by omega) dos2 ag T2 x2 b1 b2
      refine ⟨dos', ag', T', x', c1, c2, fun post n hn hJ => ?_⟩
      obtain ⟨m, rfl⟩ : ∃ m, n = m + 1 := ⟨n - 1, by omega⟩
      have h87 := b3 post _ (c3 post m (by omega) hJ)
      refine br_f (by rw [hl]; exact nI_nlt (by omega) (by omega)) (nm_r (pq_17 s i) ⟨vp_in_nI (by omega) (by decide), br_c (fun _ => ?_) (fun _ => h87)⟩)
      rw [nI_clamp (by omega), (hG.1 _ hs).1]
      refine ⟨vp_in_nI (by omega) (by decide), pk_eq (gt s) 12 (fun e => absurd (Or.inl e) ht) (fun _ => ⟨vp_in_nI (by omega) (by decide), pk_eq (gt s) 13 (fun e => absurd (Or.inr e) ht) (fun _ => h87)⟩)⟩
theorem py_42 (hw : pg_WF gt gn gz) (hL : L ≤ 16) (hl : yl = nI L) (hX : pg_X tx L) (hG : pg_GY gt gn gz tok nxt len) : ∀ k, k ≤ 48 → ∀ (dos ag : Nat → Int32) (T : Nat → Nat) (x : Nat), pg_Rn (pg_CY gt gz L) (pg_PY gt gn gz (pg_m gt tx L)) (pg_BY gt gz L) (fun _ => True) (fun c => k ≤ c / 17 % 48) T0 T x → pg_TY dos ag T → ∃ (dos' ag' : Nat → Int32) (T' : Nat → Nat) (x' : Nat), pg_Rn (pg_CY gt gz L) (pg_PY gt gn gz (pg_m gt tx L)) (pg_BY gt gz L) (fun _ => True) (fun _ => True) T0 T' x' ∧ pg_TY dos' ag' T' ∧ ∀ (post : SY → Prop) (J33 : Int32 → Int32 → Int32 → Int32 → (Nat → Int32) → (Nat → Int32) → (Nat → Int32) → (Nat → Int32) → (Nat → Int32) → (Nat → Int32) → (Nat → Int32) → (Nat → Int32) → (Nat → Int32) → (Nat → Int32) → Prop) (n : Nat), k < n → J33 (nI x') yl yt yk tok len nxt tx dos' ag' tc tp td kp → wY_table_42 post J33 n (nI x) (nI k - 1) yl yt yk tok len nxt tx dos ag tc tp td kp := by
  intro k
  induction k with
  | zero =>
    intro _ dos ag T x hR hT
    refine ⟨dos, ag, T, x, pg_rn_skip hR fun c _ => Or.inl (Nat.zero_le _), hT, fun post J n hn hJ => ?_⟩
    obtain ⟨m, rfl⟩ : ∃ m, n = m + 1 := ⟨n - 1, by omega⟩
    exact br_t (by decide) hJ
  | succ k ih =>
    intro hk dos ag T x hR hT
    have hz := hw.1 (k / 12) (by omega)
    have ed : nI k / 12 = nI (k / 12) := pk_div (d := 12) (by omega) (by omega) (by omega)
    have er : nI k - nI k / 12 * 12 = nI (k % 12) := pk_rem (d := 12) (by omega) (by omega) (by omega)
    by_cases hlv : pg_lv gz k
    · obtain ⟨dos1, ag1, T1, x1, a1, a2, a3⟩ := py_f4 (yt := yt) (yk := yk) (tc := tc) (tp := tp) (td := td) (kp := kp) (T0 := T) hw hL hl hX hG hlv (L + 1) 0 (by omega) dos ag T 0 (pg_rn_0 hR.1 fun c hc => absurd hc.2 (by omega)) hT
      have hR1 := pg_rn_comb (V2 := fun c => k ≤ c / 17 % 48) hR a1 fun c hc => by
        by_cases e : c / 17 % 48 = k
        · exact Or.inr e
        · exact Or.inl (by show k + 1 ≤ c / 17 % 48; have : k ≤ c / 17 % 48 := hc; omega)
      obtain ⟨dos', ag', T', x', c1, c2, c3⟩ := ih (by omega) dos1 ag1 T1 _ hR1 a2
      refine ⟨dos', ag', T', x', c1, c2, fun post J n hn hJ => ?_⟩
      obtain ⟨m, rfl⟩ : ∃ m, n = m + 1 := ⟨n - 1, by omega⟩
      have h4 := c3 post J m (by omega) hJ
      rw [nI_pred]
      refine br_f (nI_pos (by omega)) ⟨by decide, by decide, ?_⟩
      rw [er, ed, nI_clamp (by omega), hG.2 _ (by omega)]
      refine ⟨vp_in_nI (by omega) (by decide), br_f (nI_ge hlv.2 (by omega)) ⟨vp_in_nI (by omega) (by decide), ?_⟩⟩
      rw [nI_clamp (by omega), (hG.1 _ hlv).2]
      have hgn := (hw.2 k hlv).1
      refine br_f (nI_nle (by omega) (by omega)) ⟨L + 2, a3 _ (L + 2) (by omega) ?_⟩
      have hx1 := a1.2.2.2.2.2
      have h01 : x1 = 0 ∨ x1 = 1 := by omega
      rcases h01 with rfl | rfl
      · rw [if_pos rfl] at h4
        exact br_t rfl (nm_r (pq_pm k) h4)
      · rw [if_neg (by decide)] at h4
        exact br_f (by decide) (nm_r (pq_pm k) h4)
    · have hR1 : pg_Rn (pg_CY gt gz L) (pg_PY gt gn gz (pg_m gt tx L)) (pg_BY gt gz L) (fun _ => True) (fun c => k ≤ c / 17 % 48) T0 T x := by
        refine pg_rn_skip hR fun c hc => ?_
        by_cases e : c / 17 % 48 = k
        · refine Or.inr (Or.inr fun hC => ?_)
          rcases hC with h1 | ⟨h0, h1, _⟩
          · have h2 := h1.1.1
            have e2 : c / 17 = k := by omega
            have h3 := h1.1
            rw [e2] at h3; exact hlv h3
          · have h2 := h1.1.1
            have e2 : (c - 816) / 17 = k := by omega
            have h3 := h1.1
            rw [e2] at h3; exact hlv h3
        · exact Or.inl (by show k + 1 ≤ c / 17 % 48; have : k ≤ c / 17 % 48 := hc; omega)
      obtain ⟨dos', ag', T', x', c1, c2, c3⟩ := ih (by omega) dos ag T x hR1 hT
      refine ⟨dos', ag', T', x', c1, c2, fun post J n hn hJ => ?_⟩
      obtain ⟨m, rfl⟩ : ∃ m, n = m + 1 := ⟨n - 1, by omega⟩
      have h4 := c3 post J m (by omega) hJ
      rw [nI_pred]
      refine br_f (nI_pos (by omega)) ⟨by decide, by decide, ?_⟩
      rw [er, ed, nI_clamp (by omega), hG.2 _ (by omega)]
      have hlv2 : gz (k / 12) ≤ k % 12 := by
        by_cases e : k % 12 < gz (k / 12)
        · exact absurd ⟨by omega, e⟩ hlv
        · omega
      exact ⟨vp_in_nI (by omega) (by decide), br_t (nI_le hlv2 (by omega)) (nm_r (pq_pm k) h4)⟩
theorem py_33 (hw : pg_WF gt gn gz) (hL : L ≤ 16) (hl : yl = nI L) (hX : pg_X tx L) (hG : pg_GY gt gn gz tok nxt len) : ∀ m (dos ag : Nat → Int32) (T : Nat → Nat), pg_Good (pg_CY gt gz L) (pg_PY gt gn gz (pg_m gt tx L)) (pg_BY gt gz L) T → pg_TY dos ag T → pg_cn T 1632 < m → ∃ (dos' ag' : Nat → Int32) (T' : Nat → Nat), pg_Good (pg_CY gt gz L) (pg_PY gt gn gz (pg_m gt tx L)) (pg_BY gt gz L) T' ∧ pg_TY dos' ag' T' ∧ (∀ c, pg_CY gt gz L c → T' c = 0 → pg_PY gt gn gz (pg_m gt tx L) T' c = 0) ∧ ∀ (post : SY → Prop) (n : Nat), m < n → post (yl, yt, yk, tok, len, nxt, tx, dos', ag', tc, tp, td, kp) → wY_table_33 post n 1 yl yt yk tok len nxt tx dos ag tc tp td kp := by
  intro m
  induction m with
  | zero => intro dos ag T _ _ h; exact absurd h (by omega)
  | succ m ih =>
    intro dos ag T hg hT hm
    obtain ⟨dos1, ag1, T1, x1, a1, a2, a3⟩ := py_42 (yt := yt) (yk := yk) (tc := tc) (tp := tp) (td := td) (kp := kp) (T0 := T) hw hL hl hX hG 48 (Nat.le_refl _) dos ag T 0 (pg_rn_0 hg fun c hc => absurd hc (by omega)) hT
    obtain ⟨r1, r2, r3, r4, r5, r6⟩ := a1
    by_cases hx : x1 = 0
    · subst hx
      obtain ⟨e, r7⟩ := r4 rfl
      refine ⟨dos1, ag1, T1, r1, a2, fun c => by rw [e]; exact r7 c trivial, fun post n hn hJ => ?_⟩
      obtain ⟨n, rfl⟩ : ∃ n', n = n' + 1 + 1 := ⟨n - 2, by omega⟩
      exact br_f (by decide) ⟨49, a3 post _ 49 (by omega) (br_t (by decide) hJ)⟩
    · obtain ⟨c, q1, _, q3, q4⟩ := r5 hx
      have hc : c < 1632 := by
        rcases q1 with h1 | ⟨h0, h1, _⟩
        · have := h1.1.1; omega
        · have := h1.1.1; omega
      have hlt := pg_cn_lt (f := T) (f' := T1) (k := c) q3 q4 1632 hc (fun k hk h => by
        by_cases e : T k = 0
        · exact e
        · rw [← r2 _ e]; exact h)
      have hx1 : x1 = 1 := by omega
      subst hx1
      obtain ⟨dos', ag', T', g1, g2, g3, g4⟩ := ih dos1 ag1 T1 r1 a2 (by omega)
      refine ⟨dos', ag', T', g1, g2, g3, fun post n hn hJ => ?_⟩
      obtain ⟨n, rfl⟩ : ∃ n', n = n' + 1 := ⟨n - 1, by omega⟩
      exact br_f (by decide) ⟨49, a3 post _ 49 (by omega) (g4 post n (by omega) hJ)⟩
theorem py_2 : ∀ d i, i + d = 816 → ∀ (dos ag : Nat → Int32), (∀ c, c < i → dos c = -3 ∧ ag c = -3) → ∃ dos' ag' : Nat → Int32, (∀ c, c < 816 → dos' c = -3 ∧ ag' c = -3) ∧ ∀ (post : SY → Prop) (n : Nat), d < n → (∃ n33, wY_table_33 post n33 1 yl yt yk tok len nxt tx dos' ag' tc tp td kp) → wY_table_2 post yl yt yk n (nI i) tok len nxt tx dos ag tc tp td kp := by
  intro d
  induction d with
  | zero =>
    intro i hi dos ag h
    refine ⟨dos, ag, fun c hc => h c (by omega), fun post n hn hJ => ?_⟩
    obtain ⟨m, rfl⟩ : ∃ m, n = m + 1 := ⟨n - 1, by omega⟩
    exact br_t (nI_le (a := 816) (by omega) (by omega)) hJ
  | succ d ih =>
    intro i hi dos ag h
    obtain ⟨dos', ag', h1, h2⟩ := ih (i + 1) (by omega) (upd dos i (-3)) (upd ag i (-3)) (fun c hc => by
      by_cases e : c = i
      · subst e; exact ⟨pk_us, pk_us⟩
      · rw [pk_un e, pk_un e]; exact h c (by omega))
    refine ⟨dos', ag', h1, fun post n hn hJ => ?_⟩
    obtain ⟨m, rfl⟩ : ∃ m, n = m + 1 := ⟨n - 1, by omega⟩
    refine br_f (nI_ge (b := 816) (by omega) (by omega)) ⟨vp_in_nI (by omega) (by decide), ?_⟩
    rw [nI_clamp (by omega)]
    exact nm_e ⟨vp_in_nI (by omega) (by decide), nm_e (nm_r (nI_1 i) (h2 post m (by omega) hJ))⟩
theorem py_table (hw : pg_WF gt gn gz) (hL : L ≤ 16) (hl : yl = nI L) (hX : pg_X tx L) (hG : pg_GY gt gn gz tok nxt len) (dos ag : Nat → Int32) : ∃ (dos' ag' : Nat → Int32) (T' : Nat → Nat), pg_Good (pg_CY gt gz L) (pg_PY gt gn gz (pg_m gt tx L)) (pg_BY gt gz L) T' ∧ pg_TY dos' ag' T' ∧ (∀ c, pg_CY gt gz L c → T' c = pg_PY gt gn gz (pg_m gt tx L) T' c) ∧ ∀ (post : SY → Prop), post (yl, yt, yk, tok, len, nxt, tx, dos', ag', tc, tp, td, kp) → wpY_table post (yl, yt, yk, tok, len, nxt, tx, dos, ag, tc, tp, td, kp) := by
  obtain ⟨dos1, ag1, h1, h2⟩ := py_2 (yl := yl) (yt := yt) (yk := yk) (tok := tok) (len := len) (nxt := nxt) (tx := tx) (tc := tc) (tp := tp) (td := td) (kp := kp) 816 0 (by omega) dos ag (fun c hc => absurd hc (by omega))
  have hg : pg_Good (pg_CY gt gz L) (pg_PY gt gn gz (pg_m gt tx L)) (pg_BY gt gz L) (fun _ => 0) := pg_zero (fun c _ => Or.inl rfl)
  obtain ⟨dos', ag', T', g1, g2, g3, g4⟩ := py_33 (yt := yt) (yk := yk) (tc := tc) (tp := tp) (td := td) (kp := kp) hw hL hl hX hG (pg_cn (fun _ => 0) 1632 + 1) dos1 ag1 (fun _ => 0) hg ⟨fun c hc => (h1 c hc).1, fun c hc => (h1 c hc).2⟩ (by omega)
  exact ⟨dos', ag', T', g1, g2, pg_fix g1 g3, fun post hJ => ⟨817, h2 post 817 (by omega) ⟨_, g4 post _ (Nat.lt_succ_self _) hJ⟩⟩⟩
end
end
section
def pg_gs : Nat → Nat
  | 0 => 0
  | k + 1 => pg_gs k + (k + 1)
theorem pg_gs_mono {a b : Nat} (h : a ≤ b) : pg_gs a ≤ pg_gs b := by
  induction b with
  | zero => rw [show a = 0 by omega]; exact Nat.le_refl _
  | succ b ih =>
    by_cases e : a = b + 1
    · rw [e]; exact Nat.le_refl _
    · have := ih (by omega)
      have e2 : pg_gs (b + 1) = pg_gs b + (b + 1) := rfl
      omega
theorem pg_gs_12 {a : Nat} (h : a ≤ 12) : pg_gs a ≤ 78 := pg_gs_mono h
/-- how many steps an expression of z tokens may take over l letters -/
def pg_f (z l : Nat) : Nat := z + pg_gs z * l
theorem pg_f_pos {z l : Nat} (h : 1 ≤ z) : 1 ≤ pg_f z l := by unfold pg_f; omega
theorem pg_f_12 {z l : Nat} (h : z ≤ 12) (hl : l ≤ 16) : pg_f z l ≤ 1260 := by
  unfold pg_f
  have h1 : pg_gs z * l ≤ 78 * 16 := Nat.mul_le_mul (pg_gs_12 h) hl
  omega
theorem pg_f_seq {z z1 z2 l1 l2 : Nat} (h : z = 1 + z1 + z2) : 1 + pg_f z1 l1 + pg_f z2 l2 ≤ pg_f z (l1 + l2) := by
  unfold pg_f
  have h1 : pg_gs z1 * l1 ≤ pg_gs z * l1 := Nat.mul_le_mul_right _ (pg_gs_mono (by omega))
  have h2 : pg_gs z2 * l2 ≤ pg_gs z * l2 := Nat.mul_le_mul_right _ (pg_gs_mono (by omega))
  rw [Nat.mul_add]
  omega
theorem pg_f_one {z z1 l : Nat} (h : 1 + z1 ≤ z) : 1 + pg_f z1 l ≤ pg_f z l := by
  unfold pg_f
  have h1 : pg_gs z1 * l ≤ pg_gs z * l := Nat.mul_le_mul_right _ (pg_gs_mono (by omega))
  omega
theorem pg_f_le {z l l' : Nat} (h : l ≤ l') : pg_f z l ≤ pg_f z l' := by
  unfold pg_f
  have h1 : pg_gs z * l ≤ pg_gs z * l' := Nat.mul_le_mul_left _ h
  omega
theorem pg_f_rep {z l1 l2 : Nat} (hl : 1 ≤ l1) : 1 + pg_f z l1 + pg_f (z + 1) l2 ≤ pg_f (z + 1) (l1 + l2) := by
  unfold pg_f
  have e : pg_gs (z + 1) = pg_gs z + (z + 1) := rfl
  rw [Nat.mul_add, e, Nat.add_mul (pg_gs z) (z + 1) l1]
  have h1 : (z + 1) * 1 ≤ (z + 1) * l1 := Nat.mul_le_mul_left _ hl
  omega
def pg_pot (gn T : Nat → Nat) (s p : Nat) : Nat := pg_f (gn s - s) (T (17 * s + p) - 3 - p)
/-- the potential of a stack -/
def pg_S (gn T sl pl : Nat → Nat) : Nat → Nat
  | 0 => 0
  | m + 1 => pg_S gn T sl pl m + pg_pot gn T (sl m) (pl m)
theorem pg_S_set {gn T sl pl : Nat → Nat} {j s p : Nat} : ∀ m, m ≤ j → pg_S gn T (pu_set sl j s) (pu_set pl j p) m = pg_S gn T sl pl m
  | 0, _ => rfl
  | m + 1, h => by
    unfold pg_S
    rw [pg_S_set m (by omega), pu_n (by omega), pu_n (by omega)]
theorem pg_S_push {gn T sl pl : Nat → Nat} {m s p : Nat} : pg_S gn T (pu_set sl m s) (pu_set pl m p) (m + 1) = pg_S gn T sl pl m + pg_pot gn T s p := by
  rw [show pg_S gn T (pu_set sl m s) (pu_set pl m p) (m + 1) = pg_S gn T (pu_set sl m s) (pu_set pl m p) m + pg_pot gn T (pu_set sl m s m) (pu_set pl m p m) from rfl, pg_S_set m (Nat.le_refl m), pu_s, pu_s]
/-- an entry of the stack, at height h, with n nodes kept -/
def pg_OK (gt gn gz T : Nat → Nat) (L h n s p : Nat) : Prop := pg_lv gz s ∧ p ≤ L ∧ (3 ≤ T (17 * s + p) ∨ (gt s = 13 ∧ T (17 * s + p) = 1)) ∧ h + (gn s - s) ≤ 12 * n
def pg_St (gt gn gz T : Nat → Nat) (L m n : Nat) (ss sp sd tc tp td : Nat → Int32) (sl pl : Nat → Nat) : Prop := ∀ h, h < m → ss h = nI (sl h) ∧ sp h = nI (pl h) ∧ tc h = nI (sl h) ∧ tp h = nI (pl h) ∧ sd h = td h ∧ pg_OK gt gn gz T L h n (sl h) (pl h)
def pg_N (n : Nat) (nr ns ne nd kp : Nat → Int32) : Prop := ∀ j, j < n → kp (4 * j) = nr j ∧ kp (4 * j + 1) = ns j ∧ kp (4 * j + 2) = ne j ∧ kp (4 * j + 3) = nd j
section
variable {gt gn gz T : Nat → Nat} {L m n s p : Nat} {ss sp sd tc tp td nr ns ne nd kp : Nat → Int32} {sl pl : Nat → Nat}
theorem pg_St_push {d : Int32} (h : pg_St gt gn gz T L m n ss sp sd tc tp td sl pl) (hok : pg_OK gt gn gz T L m n s p) : pg_St gt gn gz T L (m + 1) n (upd ss m (nI s)) (upd sp m (nI p)) (upd sd m d) (upd tc m (nI s)) (upd tp m (nI p)) (upd td m d) (pu_set sl m s) (pu_set pl m p) := by
  intro k hk
  by_cases e : k = m
  · subst e
    rw [pk_us, pk_us, pk_us, pk_us, pk_us, pk_us, pu_s, pu_s]
    exact ⟨rfl, rfl, rfl, rfl, rfl, hok⟩
  · rw [pk_un e, pk_un e, pk_un e, pk_un e, pk_un e, pk_un e, pu_n e, pu_n e]
    exact h k (by omega)
theorem pg_St_mono {n' m' : Nat} (hn : n ≤ n') (hm : m' ≤ m) (h : pg_St gt gn gz T L m n ss sp sd tc tp td sl pl) : pg_St gt gn gz T L m' n' ss sp sd tc tp td sl pl := by
  intro k hk
  obtain ⟨h1, h2, h3, h4, h5, h6, h7, h8, h9⟩ := h k (by omega)
  exact ⟨h1, h2, h3, h4, h5, h6, h7, h8, by omega⟩
theorem pg_N_add {a b c d : Int32} (h : pg_N n nr ns ne nd kp) : pg_N (n + 1) (upd nr n a) (upd ns n b) (upd ne n c) (upd nd n d) (upd (upd (upd (upd kp (4 * n) a) (4 * n + 1) b) (4 * n + 2) c) (4 * n + 3) d) := by
  intro j hj
  by_cases e : j = n
  · subst e
    rw [pk_us, pk_us, pk_us, pk_us, pk_un (by omega), pk_un (by omega), pk_un (by omega), pk_us, pk_un (by omega), pk_un (by omega), pk_us, pk_un (by omega), pk_us, pk_us]
    exact ⟨rfl, rfl, rfl, rfl⟩
  · rw [pk_un e, pk_un e, pk_un e, pk_un e, pk_un (by omega), pk_un (by omega), pk_un (by omega), pk_un (by omega), pk_un (by omega), pk_un (by omega), pk_un (by omega), pk_un (by omega), pk_un (by omega), pk_un (by omega), pk_un (by omega), pk_un (by omega), pk_un (by omega), pk_un (by omega), pk_un (by omega), pk_un (by omega)]
    exact h j (by omega)
end
end
section
section
variable (gt gn gz T : Nat → Nat) (L : Nat) (pc ln : Int32) (pd pa tk af rs tx oc : Nat → Int32) (yl : Int32) (tok len nxt dos ag : Nat → Int32)
/-- both sides come to related stacks and nodes, with at most M steps to go -/
def pt_Res (M : Nat) (WX : (SX → Prop) → Prop) (WY : (SY → Prop) → Prop) : Prop :=
  ∃ (n m : Nat) (nr ns ne nd ss sp sd tc tp td kp : Nat → Int32) (sl pl : Nat → Nat), pg_St gt gn gz T L m n ss sp sd tc tp td sl pl ∧ pg_N n nr ns ne nd kp ∧ n ≤ 30 ∧ pg_S gn T sl pl m + (30 - n) * 1260 ≤ M ∧ (∀ post : SX → Prop, post (pc, ln, nI n, nI m, pd, pa, tk, af, rs, tx, oc, nr, ns, ne, nd, ss, sp, sd) → WX post) ∧ (∀ post : SY → Prop, post (yl, nI m, nI n, tok, len, nxt, tx, dos, ag, tc, tp, td, kp) → WY post)
end
section
variable {gt gn gz T : Nat → Nat} {L : Nat} {pc ln : Int32} {pd pa tk af rs tx oc : Nat → Int32} {yl : Int32} {tok len nxt dos ag : Nat → Int32}
variable {n m : Nat} {nr ns ne nd ss sp sd tc tp td kp : Nat → Int32} {sl pl : Nat → Nat} {M : Nat} {WX : (SX → Prop) → Prop} {WY : (SY → Prop) → Prop}
theorem pt_0 (hS : pg_St gt gn gz T L m n ss sp sd tc tp td sl pl) (hN : pg_N n nr ns ne nd kp) (hn : n ≤ 30) (hb : pg_S gn T sl pl m + (30 - n) * 1260 ≤ M) (hX : ∀ post : SX → Prop, post (pc, ln, nI n, nI m, pd, pa, tk, af, rs, tx, oc, nr, ns, ne, nd, ss, sp, sd) → WX post) (hY : ∀ post : SY → Prop, post (yl, nI m, nI n, tok, len, nxt, tx, dos, ag, tc, tp, td, kp) → WY post) : pt_Res gt gn gz T L pc ln pd pa tk af rs tx oc yl tok len nxt dos ag M WX WY :=
  ⟨n, m, nr, ns, ne, nd, ss, sp, sd, tc, tp, td, kp, sl, pl, hS, hN, hn, hb, hX, hY⟩
theorem pt_1 {s1 p1 : Nat} {d1 : Int32} (hS : pg_St gt gn gz T L m n ss sp sd tc tp td sl pl) (hN : pg_N n nr ns ne nd kp) (hn : n ≤ 30) (h1 : pg_OK gt gn gz T L m n s1 p1) (hb : pg_S gn T sl pl m + pg_pot gn T s1 p1 + (30 - n) * 1260 ≤ M) (hX : ∀ post : SX → Prop, post (pc, ln, nI n, nI (m + 1), pd, pa, tk, af, rs, tx, oc, nr, ns, ne, nd, upd ss m (nI s1), upd sp m (nI p1), upd sd m d1) → WX post) (hY : ∀ post : SY → Prop, post (yl, nI (m + 1), nI n, tok, len, nxt, tx, dos, ag, upd tc m (nI s1), upd tp m (nI p1), upd td m d1, kp) → WY post) : pt_Res gt gn gz T L pc ln pd pa tk af rs tx oc yl tok len nxt dos ag M WX WY :=
  pt_0 (pg_St_push hS h1) hN hn (by rw [pg_S_push]; exact hb) hX hY
theorem pt_2 {s1 p1 s2 p2 : Nat} {d1 d2 : Int32} (hS : pg_St gt gn gz T L m n ss sp sd tc tp td sl pl) (hN : pg_N n nr ns ne nd kp) (hn : n ≤ 30) (h2 : pg_OK gt gn gz T L m n s2 p2) (h1 : pg_OK gt gn gz T L (m + 1) n s1 p1) (hb : pg_S gn T sl pl m + pg_pot gn T s2 p2 + pg_pot gn T s1 p1 + (30 - n) * 1260 ≤ M) (hX : ∀ post : SX → Prop, post (pc, ln, nI n, nI (m + 1 + 1), pd, pa, tk, af, rs, tx, oc, nr, ns, ne, nd, upd (upd ss m (nI s2)) (m + 1) (nI s1), upd (upd sp m (nI p2)) (m + 1) (nI p1), upd (upd sd m d2) (m + 1) d1) → WX post) (hY : ∀ post : SY → Prop, post (yl, nI (m + 1 + 1), nI n, tok, len, nxt, tx, dos, ag, upd (upd tc m (nI s2)) (m + 1) (nI s1), upd (upd tp m (nI p2)) (m + 1) (nI p1), upd (upd td m d2) (m + 1) d1, kp) → WY post) : pt_Res gt gn gz T L pc ln pd pa tk af rs tx oc yl tok len nxt dos ag M WX WY :=
  pt_1 (pg_St_push hS h2) hN hn h1 (by rw [pg_S_push]; exact hb) hX hY
end
section
variable {pc ln nc sc : Int32} {pd pa tk af rs tx oc nr ns ne nd ss sp sd : Nat → Int32} {post : SX → Prop} {x y d : Int32}
theorem px_push (m s p : Nat) (hx : x = nI s) (hy : y = nI p) (hm : m < 360) (hs : s < 48) (h : post (pc, ln, nc, nI (m + 1), pd, pa, tk, af, rs, tx, oc, nr, ns, ne, nd, upd ss m (nI s), upd sp m (nI p), upd sd m d)) : wpX_push post (pc, ln, nc, nI m, pd, pa, tk, af, rs, tx, oc, nr, ns, ne, nd, ss, sp, sd) x y d := by
  subst hx hy
  refine br_f (nI_ge (b := 360) hm (by decide)) (br_f (nI_pos (by omega)) (br_f (nI_ge (b := 48) hs (by decide)) ?_))
  rw [nI_clamp (by omega)]
  exact ⟨vp_in_nI hm (by decide), nm_e ⟨vp_in_nI hm (by decide), nm_e ⟨vp_in_nI hm (by decide), nm_e (nm_r (nI_1 m) h)⟩⟩⟩
theorem px_addNode (m n r p z : Nat) (e : Int32) (hx : x = nI r) (hy : y = nI p) (hm : m < 360) (hn : n < 30) (hr : r < 4) (hp : p < 17) (hz : rs r = nI z) (hz0 : z ≠ 0) (hz2 : z ≤ 12) (he : oc (17 * (12 * r) + p) = e) (h : post (pc, ln, nI (n + 1), nI (m + 1), pd, pa, tk, af, rs, tx, oc, upd nr n (nI r), upd ns n (nI p), upd ne n e, upd nd n d, upd ss m (nI (12 * r)), upd sp m (nI p), upd sd m (d + 1))) : wpX_addNode post (pc, ln, nI n, nI m, pd, pa, tk, af, rs, tx, oc, nr, ns, ne, nd, ss, sp, sd) x y d := by
  subst hx hy
  refine br_t (nI_lt (b := 30) hn (by decide)) ?_
  rw [nI_clamp (by omega)]
  refine ⟨vp_in_nI hn (by decide), nm_e ⟨vp_in_nI hn (by decide), nm_e ?_⟩⟩
  refine px_rO r p z rfl rfl hr hp hz hz2 ?_
  rw [if_neg hz0, he]
  refine ⟨vp_in_nI hn (by decide), nm_e ⟨vp_in_nI hn (by decide), nm_e (nm_r (nI_1 n) ⟨vp_in_nI hr (by decide), ?_⟩)⟩⟩
  rw [nI_clamp (by omega), hz]
  refine br_f (nI_nle (by omega) (by omega)) (px_push m (12 * r) p ?_ rfl hm (by omega) h)
  rw [show (12 : Int32) = nI 12 from rfl, pk_mul, Nat.mul_comm]
end
section
variable {yl yt yk : Int32} {tok len nxt tx dos ag tc tp td kp : Nat → Int32} {post : SY → Prop} {x y d : Int32}
theorem py_task (m s p : Nat) (hx : x = nI s) (hy : y = nI p) (hm : m < 400) (h : post (yl, nI (m + 1), yk, tok, len, nxt, tx, dos, ag, upd tc m (nI s), upd tp m (nI p), upd td m d, kp)) : wpY_task post (yl, nI m, yk, tok, len, nxt, tx, dos, ag, tc, tp, td, kp) x y d := by
  subst hx hy
  refine br_f (fun e => ?_) ?_
  · rw [show (400 : Int32) = nI 400 from rfl, nI_eq (by omega) (by omega)] at e; omega
  rw [nI_clamp (by omega)]
  exact ⟨vp_in_nI hm (by decide), nm_e ⟨vp_in_nI hm (by decide), nm_e ⟨vp_in_nI hm (by decide), nm_e (nm_r (nI_1 m) h)⟩⟩⟩
theorem py_keep (n : Nat) {a b c d : Int32} (hn : n < 30) (h : post (yl, yt, nI (n + 1), tok, len, nxt, tx, dos, ag, tc, tp, td, upd (upd (upd (upd kp (4 * n) a) (4 * n + 1) b) (4 * n + 2) c) (4 * n + 3) d)) : wpY_keep post (yl, yt, nI n, tok, len, nxt, tx, dos, ag, tc, tp, td, kp) a b c d := by
  refine nm_r (e' := nI (4 * n)) (by rw [show (4 : Int32) = nI 4 from rfl, pk_mul]) ?_
  have e2 : nI (4 * n) + 2 = nI (4 * n + 2) := by rw [show (2 : Int32) = nI 2 from rfl, nI_add]
  have e3 : nI (4 * n) + 3 = nI (4 * n + 3) := by rw [show (3 : Int32) = nI 3 from rfl, nI_add]
  rw [nI_1 (4 * n), e2, e3, nI_clamp (by omega), nI_clamp (by omega), nI_clamp (by omega), nI_clamp (by omega)]
  exact ⟨vp_in_nI (by omega) (by decide), nm_e ⟨vp_in_nI (by omega) (by decide), nm_e ⟨vp_in_nI (by omega) (by decide), nm_e ⟨vp_in_nI (by omega) (by decide), nm_e (nm_r (nI_1 n) h)⟩⟩⟩⟩
end
/-- the step's fixed facts -/
def pt_H (gt gn gz T : Nat → Nat) (L : Nat) (gm : Nat → Nat → Bool) (tk af rs oc tok len nxt dos : Nat → Int32) : Prop :=
  pg_WF gt gn gz ∧ L ≤ 16 ∧ pg_GX gt gn gz tk af rs ∧ pg_GY gt gn gz tok nxt len ∧ pg_BX gz L T ∧ (∀ s p, pg_lv gz s → p ≤ L → oc (17 * s + p) = pg_en (T (17 * s + p))) ∧ (∀ s p, pg_lv gz s → p ≤ L → dos (17 * s + p) = pg_en (T (17 * s + p))) ∧ (∀ s p, pg_lv gz s → p ≤ L → T (17 * s + p) = pg_F gt gn gz gm T s p)
section
variable {gt gn gz T : Nat → Nat} {L : Nat} {gm : Nat → Nat → Bool} {pc ln : Int32} {pd pa tk af rs tx oc : Nat → Int32} {yl : Int32} {tok len nxt dos ag : Nat → Int32}
variable {n m s p : Nat} {nr ns ne nd ss sp sd tc tp td kp : Nat → Int32} {sl pl : Nat → Nat} {M : Nat} {d : Int32}
/-- tokens from 10 to 14: what X's expand asks when its part is read -/
theorem px_ex (hH : pt_H gt gn gz T L gm tk af rs oc tok len nxt dos) {nc sc : Int32} (hs : pg_lv gz s) (hp : p ≤ L) (h1 : 10 ≤ gt s) (h2 : gt s ≤ 14) {post : SX → Prop} (h : (nI (gt s) = 10 → wpX_push (fun u => match u with | (pc, ln, nc, sc, pd, pa, tk, af, rs, tx, oc, nr, ns, ne, nd, ss, sp, sd) => wX_expand_76 post (nI s) (nI p) d (nI (gt s)) (pg_en (T (17 * (s + 1) + p))) (nI (gn (s + 1))) pc ln nc sc pd pa tk af rs tx oc nr ns ne nd ss sp sd) (pc, ln, nc, sc, pd, pa, tk, af, rs, tx, oc, nr, ns, ne, nd, ss, sp, sd) (nI (gn (s + 1))) (pg_en (T (17 * (s + 1) + p))) d) ∧ (¬ nI (gt s) = 10 → wX_expand_76 post (nI s) (nI p) d (nI (gt s)) (pg_en (T (17 * (s + 1) + p))) (nI (gn (s + 1))) pc ln nc sc pd pa tk af rs tx oc nr ns ne nd ss sp sd)) : wpX_expand post (pc, ln, nc, sc, pd, pa, tk, af, rs, tx, oc, nr, ns, ne, nd, ss, sp, sd) (nI s) (nI p) d := by
  obtain ⟨hw, hL, hG, _, _, hO, _, _⟩ := hH
  have hs1 := hs.1
  have l1 := (pg_lv_1 hw hs (by omega) (by omega)).1
  have hl1 := l1.1
  refine ⟨vp_in_nI hs1 (by decide), nm_r (e' := nI (gt s)) (by rw [nI_clamp (by omega)]; exact (hG.1 _ hs).1) ?_⟩
  refine br_t (nI_lt (b := 20) (by omega) (by omega)) (br_t rfl (br_f (nI_nlt (b := 10) (by omega) (by omega)) (br_t (nI_le (b := 14) (by omega) (by omega)) ?_)))
  refine px_oA (s + 1) p (nI_1 s) rfl hl1 (by omega) ?_
  refine px_sP s rfl hl1 ?_
  rw [hO _ _ l1 hp, (hG.1 _ l1).2]
  exact h
/-- tokens from 10 to 16: what Y's visit asks when its part is read -/
theorem py_vi (hH : pt_H gt gn gz T L gm tk af rs oc tok len nxt dos) {yt yk : Int32} (hs : pg_lv gz s) (hp : p ≤ L) (h1 : 10 ≤ gt s) (h2 : gt s ≤ 16) {post : SY → Prop} (h : wY_visit_97 post (nI s) (nI p) d (nI (gt s)) (pg_en (T (17 * (s + 1) + p))) yl yt yk tok len nxt tx dos ag tc tp td kp) : wpY_visit post (yl, yt, yk, tok, len, nxt, tx, dos, ag, tc, tp, td, kp) (nI s) (nI p) d := by
  obtain ⟨hw, hL, _, hG, _, _, hD, _⟩ := hH
  have hs1 := hs.1
  have l1 := (pg_lv_1 hw hs (by omega) (by omega)).1
  have hl1 := l1.1
  refine ⟨vp_in_nI (by omega) (by decide), nm_r (e' := nI (gt s)) (by rw [nI_clamp (by omega)]; exact (hG.1 _ hs).1) ?_⟩
  refine br_f (nI_nlt (b := 10) (by omega) (by omega)) (br_f (nI_nlt (a := 16) (by omega) (by omega)) ?_)
  rw [nI_1, pq_17, nI_clamp (by omega), hD _ _ l1 hp]
  exact ⟨vp_in_nI (by omega) (by decide), br_t (nI_lt (b := 20) (by omega) (by omega)) h⟩
end
end
section
theorem pg_pot_eq {gn T : Nat → Nat} {s p z l : Nat} (hz : gn s - s = z) (hl : T (17 * s + p) - 3 - p = l) : pg_pot gn T s p = pg_f z l := by
  unfold pg_pot; rw [hz, hl]
section
variable {gt gn gz T : Nat → Nat} {L : Nat} {gm : Nat → Nat → Bool} {pc ln : Int32} {pd pa tk af rs tx oc : Nat → Int32} {yl : Int32} {tok len nxt dos ag : Nat → Int32}
variable {n m s p : Nat} {nr ns ne nd ss sp sd tc tp td kp : Nat → Int32} {sl pl : Nat → Nat} {M : Nat} {d : Int32}
/-- nothing is pushed: letters, 'any', 'empty', a range, look-ahead -/
theorem ps_leaf (hH : pt_H gt gn gz T L gm tk af rs oc tok len nxt dos) (hS : pg_St gt gn gz T L m n ss sp sd tc tp td sl pl) (hN : pg_N n nr ns ne nd kp) (hn : n < 30) (hok : pg_OK gt gn gz T L m n s p) (hb : pg_S gn T sl pl m + pg_pot gn T s p + (30 - n) * 1260 ≤ M + 1) (ht : gt s = 1 ∨ gt s = 2 ∨ gt s = 3 ∨ gt s = 15 ∨ gt s = 16 ∨ (97 ≤ gt s ∧ gt s ≤ 122)) : pt_Res gt gn gz T L pc ln pd pa tk af rs tx oc yl tok len nxt dos ag M (fun post => wpX_expand post (pc, ln, nI n, nI m, pd, pa, tk, af, rs, tx, oc, nr, ns, ne, nd, ss, sp, sd) (nI s) (nI p) d) (fun post => wpY_visit post (yl, nI m, nI n, tok, len, nxt, tx, dos, ag, tc, tp, td, kp) (nI s) (nI p) d) := by
  have hH' := hH
  obtain ⟨hw, hL, hGX, hGY, hB, hO, hD, hF⟩ := hH'
  obtain ⟨hs, hp, hv, hh⟩ := hok
  have hs1 := hs.1
  have hgn := (hw.2 s hs).1
  have hpos : 1 ≤ pg_pot gn T s p := pg_f_pos (by omega)
  refine pt_0 hS hN (by omega) (by omega) (fun post h => ?_) (fun post h => ?_)
  · refine ⟨vp_in_nI hs1 (by decide), nm_r (e' := nI (gt s)) (by rw [nI_clamp (by omega)]; exact (hGX.1 _ hs).1) ?_⟩
    rcases ht with ht | ht | ht | ht | ht | ht
    · rw [ht]; exact br_t (by decide) (br_t rfl (br_t (by decide) h))
    · rw [ht]; exact br_t (by decide) (br_t rfl (br_t (by decide) h))
    · rw [ht]; exact br_t (by decide) (br_t rfl (br_t (by decide) h))
    · rw [ht]; exact br_t (by decide) (br_t rfl (br_f (by decide) (br_f (by decide) h)))
    · rw [ht]; exact br_t (by decide) (br_t rfl (br_f (by decide) (br_f (by decide) h)))
    · exact br_f (nI_nlt (b := 20) (by omega) (by omega)) (br_t (nI_le (a := 24) (by omega) (by omega)) (br_t rfl (br_f (nI_nlt (b := 10) (by omega) (by omega)) (br_f (nI_ge (a := 14) (by omega) (by omega)) h))))
  · by_cases ht2 : gt s = 15 ∨ gt s = 16
    · refine py_vi hH hs hp (by omega) (by omega) ?_
      rcases ht2 with ht | ht
      · rw [ht]; exact br_f (by decide) (br_f (by decide) (br_c (fun _ => h) (fun _ => br_t (by decide) h)))
      · rw [ht]; exact br_f (by decide) (br_f (by decide) (br_c (fun _ => h) (fun _ => br_t (by decide) h)))
    · refine ⟨vp_in_nI (by omega) (by decide), nm_r (e' := nI (gt s)) (by rw [nI_clamp (by omega)]; exact (hGY.1 _ hs).1) ?_⟩
      by_cases ht3 : gt s < 10
      · have ht4 : gt s = 1 ∨ gt s = 2 ∨ gt s = 3 := by omega
        rcases ht4 with ht | ht | ht
        · rw [ht]; exact br_t (by decide) (br_t (by decide) (br_f (by decide) (br_f (by decide) (br_t (by decide) h))))
        · rw [ht]; exact br_t (by decide) (br_t (by decide) (br_f (by decide) (br_f (by decide) (br_t (by decide) h))))
        · rw [ht]; exact br_t (by decide) (br_t (by decide) (br_f (by decide) (br_f (by decide) (br_t (by decide) h))))
      · refine br_f (nI_nlt (b := 10) (by omega) (by omega)) (br_t (nI_lt (a := 16) (by omega) (by omega)) (br_f (nI_nlt (b := 20) (by omega) (by omega)) (br_t (nI_lt (a := 23) (by omega) (by omega)) ?_)))
        exact pk_eq (gt s) 10 (fun e => absurd e (by omega)) (fun _ => pk_eq (gt s) 11 (fun e => absurd e (by omega)) (fun _ => br_t (by decide) h))
theorem ps_seq (hH : pt_H gt gn gz T L gm tk af rs oc tok len nxt dos) (hS : pg_St gt gn gz T L m n ss sp sd tc tp td sl pl) (hN : pg_N n nr ns ne nd kp) (hn : n < 30) (hok : pg_OK gt gn gz T L m n s p) (hb : pg_S gn T sl pl m + pg_pot gn T s p + (30 - n) * 1260 ≤ M + 1) (ht : gt s = 10) : pt_Res gt gn gz T L pc ln pd pa tk af rs tx oc yl tok len nxt dos ag M (fun post => wpX_expand post (pc, ln, nI n, nI m, pd, pa, tk, af, rs, tx, oc, nr, ns, ne, nd, ss, sp, sd) (nI s) (nI p) d) (fun post => wpY_visit post (yl, nI m, nI n, tok, len, nxt, tx, dos, ag, tc, tp, td, kp) (nI s) (nI p) d) := by
  have hH' := hH
  obtain ⟨hw, hL, hGX, hGY, hB, hO, hD, hF⟩ := hH'
  obtain ⟨hs, hp, hv, hh⟩ := hok
  have hs1 := hs.1
  have l1 := (pg_lv_1 hw hs (by omega) (by omega)).1
  have l2 := (pg_lv_2 hw hs (Or.inl ht)).1
  have hl1 := l1.1
  have hl2 := l2.1
  have g0 := (hw.2 s hs).1
  have g1 := (hw.2 _ l1).1
  have g2 := (hw.2 _ l2).1
  have g3 := ((hw.2 s hs).2.2.2.2.1 (Or.inl ht)).2
  have hb1 := pg_bx hB hL l1 hp
  have e0 := hF s p hs hp
  rw [pF_10 ht] at e0
  rcases pg_bd3 hb1 with e | e | ⟨j, j1, j2, e⟩
  · rw [e] at e0; simp at e0; omega
  · rw [e] at e0; simp at e0; omega
  rw [e, if_neg (by omega), Nat.add_sub_cancel] at e0
  have hb2 := pg_bx hB hL l2 j2
  unfold pg_bd at hb2
  have k2 : pg_pot gn T (gn (s + 1)) j = pg_f (gn s - gn (s + 1)) (T (17 * gn (s + 1) + j) - 3 - j) := pg_pot_eq (by rw [g3]) rfl
  have k1 : pg_pot gn T (s + 1) p = pg_f (gn (s + 1) - (s + 1)) (j - p) := pg_pot_eq rfl (by rw [e]; omega)
  have k0 : pg_pot gn T s p = pg_f (gn s - s) ((j - p) + (T (17 * gn (s + 1) + j) - 3 - j)) := pg_pot_eq rfl (by omega)
  have hq := pg_f_seq (z := gn s - s) (z1 := gn (s + 1) - (s + 1)) (z2 := gn s - gn (s + 1)) (l1 := j - p) (l2 := T (17 * gn (s + 1) + j) - 3 - j) (by omega)
  refine pt_2 (s2 := gn (s + 1)) (p2 := j) (s1 := s + 1) (p1 := p) (d1 := d) (d2 := d) hS hN (by omega) ⟨l2, j2, Or.inl (by omega), by omega⟩ ⟨l1, hp, Or.inl (by omega), by omega⟩ (by omega) (fun post h => ?_) (fun post h => ?_)
  · refine px_ex hH hs hp (by omega) (by omega) ?_
    rw [ht, e, en_3]
    refine br_t rfl (px_push m (gn (s + 1)) j rfl rfl (by omega) hl2 ?_)
    exact br_f (by decide) (br_f (by decide) (br_f (by decide) (br_f (nI_pos (by omega)) (px_push (m + 1) (s + 1) p (nI_1 s) rfl (by omega) hl1 h))))
  · refine py_vi hH hs hp (by omega) (by omega) ?_
    rw [ht, e, en_3]
    refine br_t rfl ?_
    rw [nI_1, nI_clamp (by omega), (hGY.1 _ l1).2]
    exact ⟨vp_in_nI (by omega) (by decide), py_task m (gn (s + 1)) j rfl rfl (by omega) (py_task (m + 1) (s + 1) p rfl rfl (by omega) h)⟩
theorem ps_cho (hH : pt_H gt gn gz T L gm tk af rs oc tok len nxt dos) (hS : pg_St gt gn gz T L m n ss sp sd tc tp td sl pl) (hN : pg_N n nr ns ne nd kp) (hn : n < 30) (hok : pg_OK gt gn gz T L m n s p) (hb : pg_S gn T sl pl m + pg_pot gn T s p + (30 - n) * 1260 ≤ M + 1) (ht : gt s = 11) : pt_Res gt gn gz T L pc ln pd pa tk af rs tx oc yl tok len nxt dos ag M (fun post => wpX_expand post (pc, ln, nI n, nI m, pd, pa, tk, af, rs, tx, oc, nr, ns, ne, nd, ss, sp, sd) (nI s) (nI p) d) (fun post => wpY_visit post (yl, nI m, nI n, tok, len, nxt, tx, dos, ag, tc, tp, td, kp) (nI s) (nI p) d) := by
  have hH' := hH
  obtain ⟨hw, hL, hGX, hGY, hB, hO, hD, hF⟩ := hH'
  obtain ⟨hs, hp, hv, hh⟩ := hok
  have hs1 := hs.1
  have l1 := (pg_lv_1 hw hs (by omega) (by omega)).1
  have l2 := (pg_lv_2 hw hs (Or.inr ht)).1
  have hl1 := l1.1
  have hl2 := l2.1
  have g0 := (hw.2 s hs).1
  have g1 := (hw.2 _ l1).1
  have g2 := (hw.2 _ l2).1
  have g3 := ((hw.2 s hs).2.2.2.2.1 (Or.inr ht)).2
  have hb1 := pg_bx hB hL l1 hp
  have e0 := hF s p hs hp
  rw [pF_11 ht] at e0
  rcases pg_bd3 hb1 with e | e | ⟨j, j1, j2, e⟩
  · rw [e] at e0; simp at e0; omega
  · rw [e, if_pos rfl] at e0
    have k2 : pg_pot gn T (gn (s + 1)) p = pg_f (gn s - gn (s + 1)) (T (17 * s + p) - 3 - p) := pg_pot_eq (by rw [g3]) (by rw [e0])
    have hq := pg_f_one (z := gn s - s) (z1 := gn s - gn (s + 1)) (l := T (17 * s + p) - 3 - p) (by omega)
    have k0 : pg_pot gn T s p = pg_f (gn s - s) (T (17 * s + p) - 3 - p) := rfl
    refine pt_1 (s1 := gn (s + 1)) (p1 := p) (d1 := d) hS hN (by omega) ⟨l2, hp, Or.inl (by omega), by omega⟩ (by omega) (fun post h => ?_) (fun post h => ?_)
    · refine px_ex hH hs hp (by omega) (by omega) ?_
      rw [ht, e, en_1]
      refine br_f (by decide) (br_t rfl (br_t rfl (px_push m (gn (s + 1)) p rfl rfl (by omega) hl2 ?_)))
      exact br_f (by decide) (br_f (by decide) (br_t (by decide) h))
    · refine py_vi hH hs hp (by omega) (by omega) ?_
      rw [ht, e, en_1]
      refine br_f (by decide) (br_t rfl (br_f (by decide) ?_))
      rw [nI_1, nI_clamp (by omega), (hGY.1 _ l1).2]
      exact ⟨vp_in_nI (by omega) (by decide), py_task m (gn (s + 1)) p rfl rfl (by omega) h⟩
  · rw [e, if_neg (by omega)] at e0
    have k1 : pg_pot gn T (s + 1) p = pg_f (gn (s + 1) - (s + 1)) (T (17 * s + p) - 3 - p) := pg_pot_eq rfl (by rw [e0, e])
    have hq := pg_f_one (z := gn s - s) (z1 := gn (s + 1) - (s + 1)) (l := T (17 * s + p) - 3 - p) (by omega)
    have k0 : pg_pot gn T s p = pg_f (gn s - s) (T (17 * s + p) - 3 - p) := rfl
    refine pt_1 (s1 := s + 1) (p1 := p) (d1 := d) hS hN (by omega) ⟨l1, hp, Or.inl (by omega), by omega⟩ (by omega) (fun post h => ?_) (fun post h => ?_)
    · refine px_ex hH hs hp (by omega) (by omega) ?_
      rw [ht, e, en_3]
      exact br_f (by decide) (br_t rfl (br_f (en_n2 (by omega)) (br_f (by decide) (br_f (by decide) (br_f (nI_pos (by omega)) (px_push m (s + 1) p (nI_1 s) rfl (by omega) hl1 h))))))
    · refine py_vi hH hs hp (by omega) (by omega) ?_
      rw [ht, e, en_3]
      exact br_f (by decide) (br_t rfl (br_t (nI_pos' (by omega)) (br_f (nI_pos (by omega)) (br_f (by decide) (br_f (by decide) (br_f (by decide) (py_task m (s + 1) p (nI_1 s) rfl (by omega) h)))))))
theorem ps_opt (hH : pt_H gt gn gz T L gm tk af rs oc tok len nxt dos) (hS : pg_St gt gn gz T L m n ss sp sd tc tp td sl pl) (hN : pg_N n nr ns ne nd kp) (hn : n < 30) (hok : pg_OK gt gn gz T L m n s p) (hb : pg_S gn T sl pl m + pg_pot gn T s p + (30 - n) * 1260 ≤ M + 1) (ht : gt s = 14) : pt_Res gt gn gz T L pc ln pd pa tk af rs tx oc yl tok len nxt dos ag M (fun post => wpX_expand post (pc, ln, nI n, nI m, pd, pa, tk, af, rs, tx, oc, nr, ns, ne, nd, ss, sp, sd) (nI s) (nI p) d) (fun post => wpY_visit post (yl, nI m, nI n, tok, len, nxt, tx, dos, ag, tc, tp, td, kp) (nI s) (nI p) d) := by
  have hH' := hH
  obtain ⟨hw, hL, hGX, hGY, hB, hO, hD, hF⟩ := hH'
  obtain ⟨hs, hp, hv, hh⟩ := hok
  have hs1 := hs.1
  have l1 := (pg_lv_1 hw hs (by omega) (by omega)).1
  have hl1 := l1.1
  have g0 := (hw.2 s hs).1
  have g1 := (hw.2 _ l1).1
  have g3 := (hw.2 s hs).2.2.2.1 (by omega) (by omega)
  have hb1 := pg_bx hB hL l1 hp
  have e0 := hF s p hs hp
  rw [pF_14 ht] at e0
  have hpos : 1 ≤ pg_pot gn T s p := pg_f_pos (by omega)
  rcases pg_bd3 hb1 with e | e | ⟨j, j1, j2, e⟩
  · rw [e] at e0; simp at e0; omega
  · refine pt_0 hS hN (by omega) (by omega) (fun post h => ?_) (fun post h => ?_)
    · refine px_ex hH hs hp (by omega) (by omega) ?_
      rw [ht, e, en_1]
      exact br_f (by decide) (br_f (by decide) (br_f (by decide) (br_f (by decide) (br_t (by decide) h))))
    · refine py_vi hH hs hp (by omega) (by omega) ?_
      rw [ht, e, en_1]
      exact br_f (by decide) (br_f (by decide) (br_t (by decide) h))
  · rw [e, if_neg (by omega)] at e0
    have k1 : pg_pot gn T (s + 1) p = pg_f (gn (s + 1) - (s + 1)) (T (17 * s + p) - 3 - p) := pg_pot_eq rfl (by rw [e0, e])
    have hq := pg_f_one (z := gn s - s) (z1 := gn (s + 1) - (s + 1)) (l := T (17 * s + p) - 3 - p) (by omega)
    have k0 : pg_pot gn T s p = pg_f (gn s - s) (T (17 * s + p) - 3 - p) := rfl
    refine pt_1 (s1 := s + 1) (p1 := p) (d1 := d) hS hN (by omega) ⟨l1, hp, Or.inl (by omega), by omega⟩ (by omega) (fun post h => ?_) (fun post h => ?_)
    · refine px_ex hH hs hp (by omega) (by omega) ?_
      rw [ht, e, en_3]
      exact br_f (by decide) (br_f (by decide) (br_f (by decide) (br_f (by decide) (br_f (nI_pos (by omega)) (px_push m (s + 1) p (nI_1 s) rfl (by omega) hl1 h)))))
    · refine py_vi hH hs hp (by omega) (by omega) ?_
      rw [ht, e, en_3]
      exact br_f (by decide) (br_f (by decide) (br_f (nI_pos (by omega)) (br_f (by decide) (br_f (by decide) (br_f (by decide) (py_task m (s + 1) p (nI_1 s) rfl (by omega) h))))))
theorem pq_m2 {p : Nat} (h : p < 2 ^ 31) : (-2 : Int32) ≤ nI p := Int32.le_trans (show (-2 : Int32) ≤ 0 from by decide) (nI_pos' h)
theorem ps_rep (hH : pt_H gt gn gz T L gm tk af rs oc tok len nxt dos) (hS : pg_St gt gn gz T L m n ss sp sd tc tp td sl pl) (hN : pg_N n nr ns ne nd kp) (hn : n < 30) (hok : pg_OK gt gn gz T L m n s p) (hb : pg_S gn T sl pl m + pg_pot gn T s p + (30 - n) * 1260 ≤ M + 1) (ht : gt s = 12 ∨ gt s = 13) : pt_Res gt gn gz T L pc ln pd pa tk af rs tx oc yl tok len nxt dos ag M (fun post => wpX_expand post (pc, ln, nI n, nI m, pd, pa, tk, af, rs, tx, oc, nr, ns, ne, nd, ss, sp, sd) (nI s) (nI p) d) (fun post => wpY_visit post (yl, nI m, nI n, tok, len, nxt, tx, dos, ag, tc, tp, td, kp) (nI s) (nI p) d) := by
  have hH' := hH
  obtain ⟨hw, hL, hGX, hGY, hB, hO, hD, hF⟩ := hH'
  obtain ⟨hs, hp, hv, hh⟩ := hok
  have hs1 := hs.1
  have l1 := (pg_lv_1 hw hs (by omega) (by omega)).1
  have hl1 := l1.1
  have g0 := (hw.2 s hs).1
  have g1 := (hw.2 _ l1).1
  have g3 := (hw.2 s hs).2.2.2.1 (by omega) (by omega)
  have hb1 := pg_bx hB hL l1 hp
  have e0 := hF s p hs hp
  rw [pF_12 ht] at e0
  unfold pg_R at e0
  have hpos : 1 ≤ pg_pot gn T s p := pg_f_pos (by omega)
  rcases pg_bd3 hb1 with e | e | ⟨j, j1, j2, e⟩
  · rw [e] at e0; simp at e0; omega
  · refine pt_0 hS hN (by omega) (by omega) (fun post h => ?_) (fun post h => ?_)
    · refine px_ex hH hs hp (by omega) (by omega) ?_
      rcases ht with ht | ht
      · rw [ht, e, en_1]
        exact br_f (by decide) (br_f (by decide) (br_t (by decide) (br_t (pq_m2 (by omega)) (br_t (by decide) h))))
      · rw [ht, e, en_1]
        exact br_f (by decide) (br_f (by decide) (br_f (by decide) (br_t (by decide) (br_t (pq_m2 (by omega)) (br_t (by decide) h)))))
    · refine py_vi hH hs hp (by omega) (by omega) ?_
      rcases ht with ht | ht
      · rw [ht, e, en_1]
        exact br_f (by decide) (br_f (by decide) (br_t (by decide) h))
      · rw [ht, e, en_1]
        exact br_f (by decide) (br_f (by decide) (br_t (by decide) h))
  · rw [e, if_neg (by omega), if_neg (by omega), Nat.add_sub_cancel] at e0
    by_cases jp : j = p
    · rw [if_pos (by omega)] at e0
      have k1 : pg_pot gn T (s + 1) p = pg_f (gn (s + 1) - (s + 1)) (T (17 * s + p) - 3 - p) := pg_pot_eq rfl (by rw [e0, e, jp])
      have hq := pg_f_one (z := gn s - s) (z1 := gn (s + 1) - (s + 1)) (l := T (17 * s + p) - 3 - p) (by omega)
      have k0 : pg_pot gn T s p = pg_f (gn s - s) (T (17 * s + p) - 3 - p) := rfl
      refine pt_1 (s1 := s + 1) (p1 := p) (d1 := d) hS hN (by omega) ⟨l1, hp, Or.inl (by omega), by omega⟩ (by omega) (fun post h => ?_) (fun post h => ?_)
      · have hx : wX_expand_112 post (nI s) (nI p) d (nI p) pc ln (nI n) (nI m) pd pa tk af rs tx oc nr ns ne nd ss sp sd := br_t (nI_le (Nat.le_refl p) (by omega)) (br_f (nI_pos (by omega)) (px_push m (s + 1) p (nI_1 s) rfl (by omega) hl1 h))
        refine px_ex hH hs hp (by omega) (by omega) ?_
        rcases ht with ht | ht
        · rw [ht, e, en_3, jp]
          exact br_f (by decide) (br_f (by decide) (br_t (by decide) hx))
        · rw [ht, e, en_3, jp]
          exact br_f (by decide) (br_f (by decide) (br_f (by decide) (br_t (by decide) hx)))
      · have hy : wY_visit_186 post (nI s) (nI p) d (nI p) yl (nI m) (nI n) tok len nxt tx dos ag tc tp td kp := br_t rfl (py_task m (s + 1) p (nI_1 s) rfl (by omega) h)
        refine py_vi hH hs hp (by omega) (by omega) ?_
        rcases ht with ht | ht
        · rw [ht, e, en_3, jp]
          exact br_f (by decide) (br_f (by decide) (br_f (nI_pos (by omega)) (br_f (by decide) (br_t (by decide) hy))))
        · rw [ht, e, en_3, jp]
          exact br_f (by decide) (br_f (by decide) (br_f (nI_pos (by omega)) (br_f (by decide) (br_f (by decide) (br_t (by decide) hy)))))
    · rw [if_neg (by omega)] at e0
      have hb2 := pg_bx hB hL hs j2
      have hr13 : T (17 * s + j) = 1 → gt s = 13 := by
        intro e1
        rcases ht with ht | ht
        · have e2 := hF s j hs j2
          rw [pF_12 (Or.inl ht), ht, e1] at e2
          exact absurd e2.symm pn_R12
        · exact ht
      have hcase : (T (17 * s + j) = 1 ∧ T (17 * s + p) = j + 3) ∨ (j + 3 ≤ T (17 * s + j) ∧ T (17 * s + p) = T (17 * s + j)) := by
        unfold pg_bd at hb2
        by_cases e1 : T (17 * s + j) = 1
        · rw [if_pos e1] at e0; exact Or.inl ⟨e1, e0⟩
        · rw [if_neg e1] at e0; exact Or.inr ⟨by omega, e0⟩
      have k2 : pg_pot gn T s j = pg_f (gn (s + 1) - (s + 1) + 1) (T (17 * s + j) - 3 - j) := pg_pot_eq (by omega) rfl
      have k1 : pg_pot gn T (s + 1) p = pg_f (gn (s + 1) - (s + 1)) (j - p) := pg_pot_eq rfl (by rw [e]; omega)
      have k0 : pg_pot gn T s p = pg_f (gn (s + 1) - (s + 1) + 1) ((j - p) + (T (17 * s + j) - 3 - j)) := pg_pot_eq (by omega) (by omega)
      have hq := pg_f_rep (z := gn (s + 1) - (s + 1)) (l1 := j - p) (l2 := T (17 * s + j) - 3 - j) (by omega)
      refine pt_2 (s2 := s) (p2 := j) (s1 := s + 1) (p1 := p) (d1 := d) (d2 := d) hS hN (by omega) ⟨hs, j2, by omega, by omega⟩ ⟨l1, hp, Or.inl (by omega), by omega⟩ (by omega) (fun post h => ?_) (fun post h => ?_)
      · have hx : wX_expand_112 post (nI s) (nI p) d (nI j) pc ln (nI n) (nI m) pd pa tk af rs tx oc nr ns ne nd ss sp sd := br_f (nI_ge (by omega) (by omega)) (px_push m s j rfl rfl (by omega) hs1 (br_f (nI_pos (by omega)) (px_push (m + 1) (s + 1) p (nI_1 s) rfl (by omega) hl1 h)))
        refine px_ex hH hs hp (by omega) (by omega) ?_
        rcases ht with ht | ht
        · rw [ht, e, en_3]
          exact br_f (by decide) (br_f (by decide) (br_t (by decide) hx))
        · rw [ht, e, en_3]
          exact br_f (by decide) (br_f (by decide) (br_f (by decide) (br_t (by decide) hx)))
      · have hy : wY_visit_186 post (nI s) (nI p) d (nI j) yl (nI m) (nI n) tok len nxt tx dos ag tc tp td kp := pk_eq j p (fun e => absurd e jp) (fun _ => py_task m s j rfl rfl (by omega) (py_task (m + 1) (s + 1) p (nI_1 s) rfl (by omega) h))
        refine py_vi hH hs hp (by omega) (by omega) ?_
        rcases ht with ht | ht
        · rw [ht, e, en_3]
          exact br_f (by decide) (br_f (by decide) (br_f (nI_pos (by omega)) (br_f (by decide) (br_t (by decide) hy))))
        · rw [ht, e, en_3]
          exact br_f (by decide) (br_f (by decide) (br_f (nI_pos (by omega)) (br_f (by decide) (br_f (by decide) (br_t (by decide) hy)))))
theorem ps_rule (hH : pt_H gt gn gz T L gm tk af rs oc tok len nxt dos) (hS : pg_St gt gn gz T L m n ss sp sd tc tp td sl pl) (hN : pg_N n nr ns ne nd kp) (hn : n < 30) (hok : pg_OK gt gn gz T L m n s p) (hb : pg_S gn T sl pl m + pg_pot gn T s p + (30 - n) * 1260 ≤ M + 1) (ht : 20 ≤ gt s ∧ gt s ≤ 23) : pt_Res gt gn gz T L pc ln pd pa tk af rs tx oc yl tok len nxt dos ag M (fun post => wpX_expand post (pc, ln, nI n, nI m, pd, pa, tk, af, rs, tx, oc, nr, ns, ne, nd, ss, sp, sd) (nI s) (nI p) d) (fun post => wpY_visit post (yl, nI m, nI n, tok, len, nxt, tx, dos, ag, tc, tp, td, kp) (nI s) (nI p) d) := by
  have hH' := hH
  obtain ⟨hw, hL, hGX, hGY, hB, hO, hD, hF⟩ := hH'
  obtain ⟨hs, hp, hv, hh⟩ := hok
  have hs1 := hs.1
  have g0 := (hw.2 s hs).1
  have e0 := hF s p hs hp
  rw [pF_20 ht] at e0
  have hpos : 1 ≤ pg_pot gn T s p := pg_f_pos (by omega)
  by_cases z : gz (gt s - 20) = 0
  · rw [if_pos z] at e0; omega
  rw [if_neg z] at e0
  have lr := pg_lv_r hw (r := gt s - 20) (by omega) z
  have hlr := lr.1
  have hz := hw.1 (gt s - 20) (by omega)
  have gr := (hw.2 _ lr).1
  have er : 12 * (gt s - 20) / 12 = gt s - 20 := by omega
  rw [er] at gr
  have hb1 := pg_bx hB hL lr hp
  unfold pg_bd at hb1
  have hq : pg_pot gn T (12 * (gt s - 20)) p ≤ 1260 := pg_f_12 (by omega) (by omega)
  have e20 : nI (gt s) - 20 = nI (gt s - 20) := pk_sub (b := 20) (by omega)
  refine pt_0 (n := n + 1) (m := m + 1) (pg_St_push (d := d + 1) (s := 12 * (gt s - 20)) (p := p) (pg_St_mono (Nat.le_succ n) (Nat.le_refl m) hS) ⟨lr, hp, Or.inl (by omega), by omega⟩) (pg_N_add (a := nI (gt s - 20)) (b := nI p) (c := pg_en (T (17 * s + p))) (d := d) hN) (by omega) (by rw [pg_S_push]; omega) (fun post h => ?_) (fun post h => ?_)
  · refine ⟨vp_in_nI hs1 (by decide), nm_r (e' := nI (gt s)) (by rw [nI_clamp (by omega)]; exact (hGX.1 _ hs).1) ?_⟩
    refine br_f (nI_nlt (b := 20) (by omega) (by omega)) (br_f (nI_ge (b := 24) (by omega) (by omega)) (br_f (by decide) ?_))
    exact px_addNode m n (gt s - 20) p (gz (gt s - 20)) _ e20 rfl (by omega) hn (by omega) (by omega) (hGX.2 _ (by omega)) z hz (by rw [hO _ _ lr hp, e0]) h
  · refine ⟨vp_in_nI (by omega) (by decide), nm_r (e' := nI (gt s)) (by rw [nI_clamp (by omega)]; exact (hGY.1 _ hs).1) ?_⟩
    refine br_f (nI_nlt (b := 10) (by omega) (by omega)) (br_t (nI_lt (a := 16) (by omega) (by omega)) (br_f (nI_nlt (b := 20) (by omega) (by omega)) (br_f (nI_nlt (a := 23) (by omega) (by omega)) ?_)))
    rw [pq_17, nI_clamp (by omega), hD _ _ hs hp, e20]
    refine ⟨vp_in_nI (by omega) (by decide), py_keep n hn (py_task m (12 * (gt s - 20)) p ?_ rfl (by omega) h)⟩
    rw [show (12 : Int32) = nI 12 from rfl, pk_mul]
theorem ps_step (hH : pt_H gt gn gz T L gm tk af rs oc tok len nxt dos) (hS : pg_St gt gn gz T L m n ss sp sd tc tp td sl pl) (hN : pg_N n nr ns ne nd kp) (hn : n < 30) (hok : pg_OK gt gn gz T L m n s p) (hb : pg_S gn T sl pl m + pg_pot gn T s p + (30 - n) * 1260 ≤ M + 1) : pt_Res gt gn gz T L pc ln pd pa tk af rs tx oc yl tok len nxt dos ag M (fun post => wpX_expand post (pc, ln, nI n, nI m, pd, pa, tk, af, rs, tx, oc, nr, ns, ne, nd, ss, sp, sd) (nI s) (nI p) d) (fun post => wpY_visit post (yl, nI m, nI n, tok, len, nxt, tx, dos, ag, tc, tp, td, kp) (nI s) (nI p) d) := by
  have htv := (hH.1.2 s hok.1).2.1
  unfold pg_tv at htv
  by_cases t10 : gt s = 10
  · exact ps_seq hH hS hN hn hok hb t10
  by_cases t11 : gt s = 11
  · exact ps_cho hH hS hN hn hok hb t11
  by_cases t12 : gt s = 12 ∨ gt s = 13
  · exact ps_rep hH hS hN hn hok hb t12
  by_cases t14 : gt s = 14
  · exact ps_opt hH hS hN hn hok hb t14
  by_cases t20 : 20 ≤ gt s ∧ gt s ≤ 23
  · exact ps_rule hH hS hN hn hok hb t20
  exact ps_leaf hH hS hN hn hok hb (by omega)
end
end
section
section
variable {gt gn gz T : Nat → Nat} {L : Nat} {gm : Nat → Nat → Bool} {pc ln : Int32} {pd pa tk af rs tx oc : Nat → Int32} {yl : Int32} {tok len nxt dos ag : Nat → Int32}
theorem pt_loop (hH : pt_H gt gn gz T L gm tk af rs oc tok len nxt dos) : ∀ (M n m t : Nat) (nr ns ne nd ss sp sd tc tp td kp : Nat → Int32) (sl pl : Nat → Nat), pg_St gt gn gz T L m n ss sp sd tc tp td sl pl → pg_N n nr ns ne nd kp → n ≤ 30 → pg_S gn T sl pl m + (30 - n) * 1260 ≤ M → t + M < 40000 → ∃ (n' m' : Nat) (nr' ns' ne' nd' ss' sp' sd' tc' tp' td' kp' : Nat → Int32), pg_N n' nr' ns' ne' nd' kp' ∧ n' ≤ 30 ∧ (∀ (post : SX → Prop) (k : Nat), M < k → post (pc, ln, nI n', nI m', pd, pa, tk, af, rs, tx, oc, nr', ns', ne', nd', ss', sp', sd') → wX_buildTree_14 post k (nI t) pc ln (nI n) (nI m) pd pa tk af rs tx oc nr ns ne nd ss sp sd) ∧ (∀ (post : SY → Prop) (k : Nat), M < k → post (yl, nI m', nI n', tok, len, nxt, tx, dos, ag, tc', tp', td', kp') → wY_tree_26 post k (nI t) yl (nI m) (nI n) tok len nxt tx dos ag tc tp td kp) := by
  intro M
  induction M with
  | zero =>
    intro n m t nr ns ne nd ss sp sd tc tp td kp sl pl hS hN hn hb ht
    have hn30 : n = 30 := by omega
    refine ⟨n, m, nr, ns, ne, nd, ss, sp, sd, tc, tp, td, kp, hN, hn, fun post k hk h => ?_, fun post k hk h => ?_⟩
    · obtain ⟨k, rfl⟩ : ∃ k', k = k' + 1 := ⟨k - 1, by omega⟩
      exact br_f (nI_ge (b := 1000000) (by omega) (by omega)) (br_c (fun _ => h) (fun _ => br_t (nI_le (a := 30) (by omega) (by omega)) h))
    · obtain ⟨k, rfl⟩ : ∃ k', k = k' + 1 := ⟨k - 1, by omega⟩
      exact br_f (nI_ge (b := 40000) (by omega) (by omega)) (br_c (fun _ => h) (fun _ => br_t (nI_le (a := 30) (by omega) (by omega)) h))
  | succ M ih =>
    intro n m t nr ns ne nd ss sp sd tc tp td kp sl pl hS hN hn hb ht
    by_cases hn30 : n = 30
    · refine ⟨n, m, nr, ns, ne, nd, ss, sp, sd, tc, tp, td, kp, hN, hn, fun post k hk h => ?_, fun post k hk h => ?_⟩
      · obtain ⟨k, rfl⟩ : ∃ k', k = k' + 1 := ⟨k - 1, by omega⟩
        exact br_f (nI_ge (b := 1000000) (by omega) (by omega)) (br_c (fun _ => h) (fun _ => br_t (nI_le (a := 30) (by omega) (by omega)) h))
      · obtain ⟨k, rfl⟩ : ∃ k', k = k' + 1 := ⟨k - 1, by omega⟩
        exact br_f (nI_ge (b := 40000) (by omega) (by omega)) (br_c (fun _ => h) (fun _ => br_t (nI_le (a := 30) (by omega) (by omega)) h))
    cases m with
    | zero =>
      refine ⟨n, 0, nr, ns, ne, nd, ss, sp, sd, tc, tp, td, kp, hN, hn, fun post k hk h => ?_, fun post k hk h => ?_⟩
      · obtain ⟨k, rfl⟩ : ∃ k', k = k' + 1 := ⟨k - 1, by omega⟩
        exact br_f (nI_ge (b := 1000000) (by omega) (by omega)) (br_t (by decide) h)
      · obtain ⟨k, rfl⟩ : ∃ k', k = k' + 1 := ⟨k - 1, by omega⟩
        exact br_f (nI_ge (b := 40000) (by omega) (by omega)) (br_t (by decide) h)
    | succ m =>
      obtain ⟨h1, h2, h3, h4, h5, hok⟩ := hS m (by omega)
      have hsz := (hH.1.2 _ hok.1).1
      have hht := hok.2.2.2
      have hSe : pg_S gn T sl pl (m + 1) = pg_S gn T sl pl m + pg_pot gn T (sl m) (pl m) := rfl
      obtain ⟨n2, m2, nr2, ns2, ne2, nd2, ss2, sp2, sd2, tc2, tp2, td2, kp2, sl2, pl2, a1, a2, a3, a4, a5, a6⟩ := ps_step (M := M) (d := sd m) (pc := pc) (ln := ln) (pd := pd) (pa := pa) (tx := tx) (yl := yl) (ag := ag) hH (pg_St_mono (Nat.le_refl n) (Nat.le_succ m) hS) hN (by omega) hok (by omega)
      obtain ⟨n', m', nr', ns', ne', nd', ss', sp', sd', tc', tp', td', kp', b1, b2, b3, b4⟩ := ih n2 m2 (t + 1) nr2 ns2 ne2 nd2 ss2 sp2 sd2 tc2 tp2 td2 kp2 sl2 pl2 a1 a2 a3 a4 (by omega)
      refine ⟨n', m', nr', ns', ne', nd', ss', sp', sd', tc', tp', td', kp', b1, b2, fun post k hk h => ?_, fun post k hk h => ?_⟩
      · obtain ⟨k, rfl⟩ : ∃ k', k = k' + 1 := ⟨k - 1, by omega⟩
        refine br_f (nI_ge (b := 1000000) (by omega) (by omega)) (br_f (nI_nle (by omega) (by omega)) (br_f (nI_ge (b := 30) (by omega) (by omega)) (nm_r (nI_pred m) ⟨vp_in_nI (by omega) (by decide), vp_in_nI (by omega) (by decide), vp_in_nI (by omega) (by decide), ?_⟩)))
        rw [nI_clamp (by omega), h1, h2]
        exact a5 _ (nm_r (nI_1 t) (b3 post k (by omega) h))
      · obtain ⟨k, rfl⟩ : ∃ k', k = k' + 1 := ⟨k - 1, by omega⟩
        refine br_f (nI_ge (b := 40000) (by omega) (by omega)) (br_f (nI_nle (by omega) (by omega)) (br_f (nI_ge (b := 30) (by omega) (by omega)) (nm_r (nI_pred m) ⟨vp_in_nI (by omega) (by decide), vp_in_nI (by omega) (by decide), vp_in_nI (by omega) (by decide), ?_⟩)))
        rw [nI_clamp (by omega), h3, h4, ← h5]
        exact a6 _ (nm_r (nI_1 t) (b4 post k (by omega) h))
theorem pt_tree (hH : pt_H gt gn gz T L gm tk af rs oc tok len nxt dos) {r p : Nat} (hr : r < 4) (hz0 : gz r ≠ 0) (hp : p ≤ L) (hv : 3 ≤ T (17 * (12 * r) + p)) (sc yt : Int32) (nr ns ne nd ss sp sd tc tp td kp : Nat → Int32) : ∃ (n' m' : Nat) (nr' ns' ne' nd' ss' sp' sd' tc' tp' td' kp' : Nat → Int32), pg_N n' nr' ns' ne' nd' kp' ∧ n' ≤ 30 ∧ (∀ (post : SX → Prop), post (pc, ln, nI n', nI m', pd, pa, tk, af, rs, tx, oc, nr', ns', ne', nd', ss', sp', sd') → wpX_buildTree post (pc, ln, 0, sc, pd, pa, tk, af, rs, tx, oc, nr, ns, ne, nd, ss, sp, sd) (nI r) (nI p)) ∧ (∀ (post : SY → Prop), post (yl, nI m', nI n', tok, len, nxt, tx, dos, ag, tc', tp', td', kp') → wpY_tree post (yl, yt, 0, tok, len, nxt, tx, dos, ag, tc, tp, td, kp) (nI r) (nI p) (pg_en (T (17 * (12 * r) + p)))) := by
  obtain ⟨hw, hL, hGX, hGY, hB, hO, hD, hF⟩ := id hH
  have lr := pg_lv_r hw hr hz0
  have hz := hw.1 r hr
  have gr := (hw.2 _ lr).1
  have er : 12 * r / 12 = r := by omega
  rw [er] at gr
  have hb1 := pg_bx hB hL lr hp
  unfold pg_bd at hb1
  have hq : pg_pot gn T (12 * r) p ≤ 1260 := pg_f_12 (by omega) (by omega)
  have hS0 : pg_St gt gn gz T L 0 1 ss sp sd tc tp td (fun _ => 0) (fun _ => 0) := fun h hh => absurd hh (by omega)
  have hN0 : pg_N 0 nr ns ne nd kp := fun h hh => absurd hh (by omega)
  have hS1 := pg_St_push (d := (1 : Int32)) hS0 (s := 12 * r) (p := p) ⟨lr, hp, Or.inl hv, by omega⟩
  have hN1 := pg_N_add (a := nI r) (b := nI p) (c := pg_en (T (17 * (12 * r) + p))) (d := 0) hN0
  obtain ⟨n', m', nr', ns', ne', nd', ss', sp', sd', tc', tp', td', kp', b1, b2, b3, b4⟩ := pt_loop (pc := pc) (ln := ln) (pd := pd) (pa := pa) (tx := tx) (yl := yl) (ag := ag) hH 37800 (0 + 1) (0 + 1) 0 _ _ _ _ _ _ _ _ _ _ _ _ _ hS1 hN1 (by omega) (by rw [pg_S_push]; show 0 + _ + _ ≤ _; omega) (by omega)
  refine ⟨n', m', nr', ns', ne', nd', ss', sp', sd', tc', tp', td', kp', b1, b2, fun post h => ?_, fun post h => ?_⟩
  · unfold wpX_buildTree
    refine px_addNode 0 0 r p (gz r) _ rfl rfl (by omega) (by omega) hr (by omega) (hGX.2 _ hr) hz0 hz (hO _ _ lr hp) ?_
    exact ⟨37801, b3 post 37801 (by omega) h⟩
  · unfold wpY_tree
    refine py_keep 0 (by omega) ?_
    refine py_task 0 (12 * r) p ?_ rfl (by omega) ?_
    · rw [show (12 : Int32) = nI 12 from rfl, pk_mul]
    · exact ⟨37801, b4 post 37801 (by omega) h⟩
end
end
section
def pg_P (q : Nat) (pd tok len : Nat → Int32) : Prop := len 4 = nI q ∧ ∀ k, k < q → ∃ t, pg_tv t ∧ pd k = nI t ∧ tok (48 + k) = nI t
def pg_I (q L n : Nat) (gt gn gz : Nat → Nat) (pd tk af rs tx nr ns ne nd tok len nxt kp : Nat → Int32) : Prop :=
  q ≤ 12 ∧ L ≤ 16 ∧ n ≤ 30 ∧ pg_WF gt gn gz ∧ pg_GX gt gn gz tk af rs ∧ pg_GY gt gn gz tok nxt len ∧ pg_X tx L ∧ pg_N n nr ns ne nd kp ∧ pg_P q pd tok len
/-- the same list, grammar, text and nodes; tables and stacks are of no account between calls -/
def i_Rel (k : Nat) (u : SX) (v : SY) : Prop :=
  k = k ∧ ∃ (q L n : Nat) (gt gn gz : Nat → Nat) (sc yt : Int32) (pd pa tk af rs tx oc nr ns ne nd ss sp sd tok len nxt dos ag tc tp td kp : Nat → Int32), u = (nI q, nI L, nI n, sc, pd, pa, tk, af, rs, tx, oc, nr, ns, ne, nd, ss, sp, sd) ∧ v = (nI L, yt, nI n, tok, len, nxt, tx, dos, ag, tc, tp, td, kp) ∧ pg_I q L n gt gn gz pd tk af rs tx nr ns ne nd tok len nxt kp
theorem pi_mk {k q L n : Nat} {gt gn gz : Nat → Nat} {sc yt : Int32} {pd pa tk af rs tx oc nr ns ne nd ss sp sd tok len nxt dos ag tc tp td kp : Nat → Int32} (h : pg_I q L n gt gn gz pd tk af rs tx nr ns ne nd tok len nxt kp) : i_Rel k (nI q, nI L, nI n, sc, pd, pa, tk, af, rs, tx, oc, nr, ns, ne, nd, ss, sp, sd) (nI L, yt, nI n, tok, len, nxt, tx, dos, ag, tc, tp, td, kp) :=
  ⟨rfl, q, L, n, gt, gn, gz, sc, yt, pd, pa, tk, af, rs, tx, oc, nr, ns, ne, nd, ss, sp, sd, tok, len, nxt, dos, ag, tc, tp, td, kp, rfl, rfl, h⟩
theorem i_up {k : Nat} {u : SX} {v : SY} (h : i_Rel k u v) : i_Rel (k + 5) u v := ⟨rfl, h.2⟩
theorem pi_z {z : Nat → Nat} {s : Nat} (hz : z = fun _ => 0) (h : pg_lv z s) : False := by
  subst hz; exact absurd h.2 (Nat.not_lt_zero _)
theorem i_vc0 : wpX_init (fun u => wpY_init (fun v => i_Rel 0 u v)) := by
  refine pi_mk (k := 0) (q := 0) (L := 0) (n := 0) (gt := fun _ => 0) (gn := fun _ => 0) (gz := fun _ => 0) ⟨by omega, by omega, by omega, ⟨fun _ _ => Nat.zero_le _, fun s hs => (pi_z rfl hs).elim⟩, ⟨fun s hs => (pi_z rfl hs).elim, fun _ _ => rfl⟩, ⟨fun s hs => (pi_z rfl hs).elim, fun _ _ => rfl⟩, fun i hi => absurd hi (by omega), fun i hi => absurd hi (by omega), ⟨rfl, fun i hi => absurd hi (by omega)⟩⟩
section
variable {pc ln nc sc : Int32} {pd pa tk af rs tx oc nr ns ne nd ss sp sd : Nat → Int32} {post : Int32 → Prop} {x y : Int32}
theorem px_hL0 {L : Nat} (h : x < 0 ∨ nI L ≤ x) (hp : post 0) : wpX_hasLetter post (pc, nI L, nc, sc, pd, pa, tk, af, rs, tx, oc, nr, ns, ne, nd, ss, sp, sd) x :=
  br_c (fun _ => hp) (fun h1 => br_t (by rcases h with h | h; exact absurd h h1; exact h) hp)
theorem px_hL1 {L j : Nat} (hL : L ≤ 16) (h : j < L) (hp : post 1) : wpX_hasLetter post (pc, nI L, nc, sc, pd, pa, tk, af, rs, tx, oc, nr, ns, ne, nd, ss, sp, sd) (nI j) :=
  br_f (nI_pos (by omega)) (br_f (nI_ge h (by omega)) hp)
theorem px_iLt (h : ¬ x < 97 ∧ ¬ 122 < x) (hp : post 1) : wpX_isLetter post x := br_f h.1 (br_f h.2 hp)
theorem px_iLf (h : ¬ (¬ x < 97 ∧ ¬ 122 < x)) (hp : post 0) : wpX_isLetter post x := br_c (fun _ => hp) (fun h1 => br_c (fun _ => hp) (fun h2 => absurd ⟨h1, h2⟩ h))
theorem py_iLt (h : ¬ x < 97 ∧ ¬ 122 < x) (hp : post 1) : wpY_isLetter post x := br_f h.1 (br_f h.2 hp)
theorem py_iLf (h : ¬ (¬ x < 97 ∧ ¬ 122 < x)) (hp : post 0) : wpY_isLetter post x := br_c (fun _ => hp) (fun h1 => br_c (fun _ => hp) (fun h2 => absurd ⟨h1, h2⟩ h))
theorem px_iRt {r : Nat} (h : r < 4) (hp : post 1) : wpX_isRule post (nI r) := br_f (nI_pos (by omega)) (br_f (nI_ge (b := 4) h (by omega)) hp)
theorem px_iRf (h : x < 0 ∨ nI 4 ≤ x) (hp : post 0) : wpX_isRule post x := br_c (fun _ => hp) (fun h1 => br_t (by rcases h with h | h; exact absurd h h1; exact h) hp)
end
theorem pi_ix (x : Int32) {n : Nat} (hn : n < 2 ^ 31) : (x < 0 ∨ nI n ≤ x) ∨ ∃ j : Nat, j < n ∧ x = nI j := by
  rcases pk_ix x hn with h | h | h
  · exact Or.inl (Or.inl h)
  · exact Or.inl (Or.inr h)
  · exact Or.inr h
theorem i_vc_letter {k : Nat} {u : SX} {v : SY} (I : i_Rel k u v) (hk : k + 5 ≤ 2560) (v1 : Int32) : wpX_letter (fun r => wpY_letter (fun r' => r' = r ∧ i_Rel (k + 5) u v) v v1) u v1 := by
  have I2 := i_up I
  obtain ⟨_, q, L, n, gt, gn, gz, sc, yt, pd, pa, tk, af, rs, tx, oc, nr, ns, ne, nd, ss, sp, sd, tok, len, nxt, dos, ag, tc, tp, td, kp, rfl, rfl, hI⟩ := I
  have hL := hI.2.1
  unfold wpX_letter
  rcases pi_ix v1 (n := L) (by omega) with h | ⟨j, hj, rfl⟩
  · refine px_hL0 h (br_t rfl ?_)
    exact br_c (fun _ => ⟨rfl, I2⟩) (fun h1 => br_f (by rcases h with h | h; exact absurd h h1; exact Int32.not_lt.mpr h) ⟨rfl, I2⟩)
  · refine px_hL1 hL hj (br_f (by decide) ⟨vp_in_nI (by omega) (by decide), ?_⟩)
    exact br_f (nI_pos (by omega)) (br_t (nI_lt hj (by omega)) ⟨vp_in_nI (by omega) (by decide), rfl, I2⟩)
theorem i_vc_change {k : Nat} {u : SX} {v : SY} (I : i_Rel k u v) (hk : k + 5 ≤ 2560) (v1 : Int32) (v2 : Int32) : wpX_change (fun r u' => wpY_change (fun r' v' => r' = r ∧ i_Rel (k + 5) u' v') v v1 v2) u v1 v2 := by
  have I2 := i_up I
  obtain ⟨_, q, L, n, gt, gn, gz, sc, yt, pd, pa, tk, af, rs, tx, oc, nr, ns, ne, nd, ss, sp, sd, tok, len, nxt, dos, ag, tc, tp, td, kp, rfl, rfl, hI⟩ := I
  have hL := hI.2.1
  unfold wpX_change
  rcases pi_ix v1 (n := L) (by omega) with h | ⟨j, hj, rfl⟩
  · refine px_hL0 h (br_t rfl ?_)
    exact br_c (fun _ => ⟨rfl, I2⟩) (fun h1 => br_t (by rcases h with h | h; exact absurd h h1; exact h) ⟨rfl, I2⟩)
  · by_cases hl : ¬ v2 < 97 ∧ ¬ 122 < v2
    · refine px_hL1 hL hj (br_f (by decide) (px_iLt hl (br_f (by decide) ?_)))
      rw [nI_clamp (by omega)]
      refine ⟨vp_in_nI (by omega) (by decide), nm_e ⟨vp_in_nI (by omega) (by decide), nm_e ?_⟩⟩
      refine br_f (nI_pos (by omega)) (br_f (nI_ge hj (by omega)) (py_iLt hl (br_f (by decide) ?_)))
      rw [nI_clamp (by omega)]
      refine ⟨vp_in_nI (by omega) (by decide), nm_e ⟨vp_in_nI (by omega) (by decide), nm_e ⟨rfl, ?_⟩⟩⟩
      obtain ⟨h1, h2, h3, h4, h5, h6, h7, h8, h9⟩ := hI
      refine pi_mk ⟨h1, h2, h3, h4, h5, h6, fun i hi => ?_, h8, h9⟩
      by_cases e : i = j
      · subst e; rw [pk_us]; exact Int32.not_lt.mp hl.1
      · rw [pk_un e]; exact h7 i hi
    · refine px_hL1 hL hj (br_f (by decide) (px_iLf hl (br_t rfl ?_)))
      exact br_f (nI_pos (by omega)) (br_f (nI_ge hj (by omega)) (py_iLf hl (br_t rfl ⟨rfl, I2⟩)))
theorem i_vc_nodes {k : Nat} {u : SX} {v : SY} (I : i_Rel k u v) (hk : k + 5 ≤ 2560) : wpX_nodes (fun r => wpY_nodes (fun r' => r' = r ∧ i_Rel (k + 5) u v) v) u := by
  have I2 := i_up I
  obtain ⟨_, q, L, n, gt, gn, gz, sc, yt, pd, pa, tk, af, rs, tx, oc, nr, ns, ne, nd, ss, sp, sd, tok, len, nxt, dos, ag, tc, tp, td, kp, rfl, rfl, hI⟩ := I
  exact ⟨rfl, I2⟩
theorem i_vc_node {k : Nat} {u : SX} {v : SY} (I : i_Rel k u v) (hk : k + 5 ≤ 2560) (v1 : Int32) (v2 : Int32) : wpX_node (fun r => wpY_node (fun r' => r' = r ∧ i_Rel (k + 5) u v) v v1 v2) u v1 v2 := by
  have I2 := i_up I
  obtain ⟨_, q, L, n, gt, gn, gz, sc, yt, pd, pa, tk, af, rs, tx, oc, nr, ns, ne, nd, ss, sp, sd, tok, len, nxt, dos, ag, tc, tp, td, kp, rfl, rfl, hI⟩ := I
  have hn := hI.2.2.1
  have hN := hI.2.2.2.2.2.2.2.1
  rcases pi_ix v1 (n := n) (by omega) with h | ⟨j, hj, rfl⟩
  · refine br_c (fun h1 => br_t h1 ⟨rfl, I2⟩) (fun h1 => ?_)
    have h2 : nI n ≤ v1 := by
      rcases h with h | h
      · exact absurd h h1
      · exact h
    exact br_f (Int32.not_lt.mpr h2) (br_f h1 (br_t h2 ⟨rfl, I2⟩))
  · obtain ⟨n0, n1, n2, n3⟩ := hN j hj
    refine br_f (nI_pos (by omega)) (br_t (nI_lt hj (by omega)) ?_)
    rcases pi_ix v2 (n := 4) (by omega) with h | ⟨w, hw, rfl⟩
    · refine br_c (fun h1 => br_f (nI_pos (by omega)) (br_f (nI_ge hj (by omega)) (br_t h1 ⟨rfl, I2⟩))) (fun h1 => ?_)
      have h2 : nI 4 ≤ v2 := by
        rcases h with h | h
        · exact absurd h h1
        · exact h
      have h3 : (3 : Int32) < v2 := Int32.lt_of_lt_of_le (show (3 : Int32) < nI 4 from by decide) h2
      exact br_t h3 (br_f (nI_pos (by omega)) (br_f (nI_ge hj (by omega)) (br_f h1 (br_f (Int32.not_le.mpr h3) ⟨rfl, I2⟩))))
    · have e4 : 4 * nI j + nI w = nI (4 * j + w) := by rw [show (4 : Int32) = nI 4 from rfl, pk_mul, nI_add]
      have hy : ∀ r : Int32, kp (4 * j + w) = r → wpY_node (fun r' => r' = r ∧ i_Rel (k + 5) (nI q, nI L, nI n, sc, pd, pa, tk, af, rs, tx, oc, nr, ns, ne, nd, ss, sp, sd) (nI L, yt, nI n, tok, len, nxt, tx, dos, ag, tc, tp, td, kp)) (nI L, yt, nI n, tok, len, nxt, tx, dos, ag, tc, tp, td, kp) (nI j) (nI w) := by
        intro r hr
        refine br_f (nI_pos (by omega)) (br_f (nI_ge hj (by omega)) (br_f (nI_pos (by omega)) (br_t (nI_le (b := 3) (by omega) (by omega)) ?_)))
        rw [e4, nI_clamp (by omega)]
        exact ⟨vp_in_nI (by omega) (by decide), hr, I2⟩
      refine br_f (nI_pos (by omega)) (br_f (nI_nlt (a := 3) (by omega) (by omega)) ?_)
      have hv : vp_in (nI j) 30 := vp_in_nI (by omega) (by decide)
      rw [nI_clamp (by omega)]
      have h4 : w = 0 ∨ w = 1 ∨ w = 2 ∨ w = 3 := by omega
      rcases h4 with rfl | rfl | rfl | rfl
      · exact br_t (by decide) ⟨hv, hy _ n0⟩
      · exact br_f (by decide) (br_t (by decide) ⟨hv, hy _ n1⟩)
      · exact br_f (by decide) (br_f (by decide) (br_t (by decide) ⟨hv, hy _ n2⟩))
      · exact br_f (by decide) (br_f (by decide) (br_f (by decide) (br_t (by decide) ⟨hv, hy _ n3⟩)))
section
variable {pc ln nc sc : Int32} {pd pa tk af rs oc nr ns ne nd ss sp sd : Nat → Int32} {yl yt yk : Int32} {tok len nxt dos ag tc tp td kp : Nat → Int32}
theorem pi_ins {L p : Nat} {w : Int32} (hL : L < 16) (hp : p ≤ L) (hw : (97 : Int32) ≤ w) : ∀ d (tx : Nat → Int32), p + d ≤ L → (∀ i, i ≤ L → i ≠ p + d → (97 : Int32) ≤ tx i) → ∃ tx' : Nat → Int32, pg_X tx' (L + 1) ∧ (∀ (post : Int32 → SX → Prop) (n : Nat), d < n → post (nI (L + 1)) (pc, nI (L + 1), nc, sc, pd, pa, tk, af, rs, tx', oc, nr, ns, ne, nd, ss, sp, sd) → wX_insert_35 post (nI p) w pc (nI L) nc sc n (nI (p + d)) pd pa tk af rs tx oc nr ns ne nd ss sp sd) ∧ (∀ (post : Int32 → SY → Prop) (n : Nat), d < n → post (nI (L + 1)) (nI (L + 1), yt, yk, tok, len, nxt, tx', dos, ag, tc, tp, td, kp) → wY_insert_35 post (nI p) w (nI L) yt yk n (nI (p + d)) tok len nxt tx dos ag tc tp td kp) := by
  intro d
  induction d with
  | zero =>
    intro tx _ hx
    refine ⟨upd tx p w, ?_, fun post n hn h => ?_, fun post n hn h => ?_⟩
    · intro i hi
      by_cases e : i = p
      · subst e; rw [pk_us]; exact hw
      · rw [pk_un e]; exact hx i (by omega) e
    · obtain ⟨n, rfl⟩ : ∃ n', n = n' + 1 := ⟨n - 1, by omega⟩
      refine br_t (nI_le (by omega) (by omega)) ⟨vp_in_nI (by omega) (by decide), ?_⟩
      rw [nI_clamp (by omega)]
      exact nm_e (nm_r (nI_1 L) h)
    · obtain ⟨n, rfl⟩ : ∃ n', n = n' + 1 := ⟨n - 1, by omega⟩
      refine br_t (nI_le (by omega) (by omega)) ⟨vp_in_nI (by omega) (by decide), ?_⟩
      rw [nI_clamp (by omega)]
      exact nm_e (nm_r (nI_1 L) h)
  | succ d ih =>
    intro tx hd hx
    obtain ⟨tx', h1, h2, h3⟩ := ih (upd tx (p + (d + 1)) (tx (p + d))) (by omega) (fun i hi hne => by
      by_cases e : i = p + (d + 1)
      · subst e; rw [pk_us]; exact hx _ (by omega) (by omega)
      · rw [pk_un e]; exact hx i hi e)
    refine ⟨tx', h1, fun post n hn h => ?_, fun post n hn h => ?_⟩
    · obtain ⟨n, rfl⟩ : ∃ n', n = n' + 1 := ⟨n - 1, by omega⟩
      refine br_f (nI_ge (by omega) (by omega)) ?_
      rw [← Nat.add_assoc, nI_pred, nI_clamp (by omega), nI_clamp (by omega)]
      refine ⟨vp_in_nI (by omega) (by decide), vp_in_nI (by omega) (by decide), nm_e (nm_r (pk_m1 (p + d)) (h2 post n (by omega) h))⟩
    · obtain ⟨n, rfl⟩ : ∃ n', n = n' + 1 := ⟨n - 1, by omega⟩
      refine br_f (nI_ge (by omega) (by omega)) ?_
      rw [← Nat.add_assoc, nI_pred, nI_clamp (by omega), nI_clamp (by omega)]
      refine ⟨vp_in_nI (by omega) (by decide), vp_in_nI (by omega) (by decide), nm_e (nm_r (pk_m1 (p + d)) (h3 post n (by omega) h))⟩
theorem pi_era {L : Nat} (hL : L < 16) : ∀ d p (tx : Nat → Int32), p + d = L → pg_X tx (L + 1) → ∃ tx' : Nat → Int32, pg_X tx' (L + 1) ∧ (∀ (post : Int32 → SX → Prop) (n : Nat), d < n → post (nI L) (pc, nI L, nc, sc, pd, pa, tk, af, rs, tx', oc, nr, ns, ne, nd, ss, sp, sd) → wX_erase_22 post pc (nI L) nc sc n (nI p) pd pa tk af rs tx oc nr ns ne nd ss sp sd) ∧ (∀ (post : Int32 → SY → Prop) (n : Nat), d < n → post (nI L) (nI L, yt, yk, tok, len, nxt, tx', dos, ag, tc, tp, td, kp) → wY_erase_26 post (nI L) yt yk n (nI p) tok len nxt tx dos ag tc tp td kp) := by
  intro d
  induction d with
  | zero =>
    intro p tx hp hx
    refine ⟨tx, hx, fun post n hn h => ?_, fun post n hn h => ?_⟩
    · obtain ⟨n, rfl⟩ : ∃ n', n = n' + 1 := ⟨n - 1, by omega⟩
      exact br_t (nI_le (by omega) (by omega)) h
    · obtain ⟨n, rfl⟩ : ∃ n', n = n' + 1 := ⟨n - 1, by omega⟩
      exact br_t (nI_le (by omega) (by omega)) h
  | succ d ih =>
    intro p tx hp hx
    obtain ⟨tx', h1, h2, h3⟩ := ih (p + 1) (upd tx p (tx (p + 1))) (by omega) (fun i hi => by
      by_cases e : i = p
      · subst e; rw [pk_us]; exact hx _ (by omega)
      · rw [pk_un e]; exact hx i hi)
    refine ⟨tx', h1, fun post n hn h => ?_, fun post n hn h => ?_⟩
    · obtain ⟨n, rfl⟩ : ∃ n', n = n' + 1 := ⟨n - 1, by omega⟩
      refine br_f (nI_ge (by omega) (by omega)) ?_
      rw [nI_1, nI_clamp (by omega), nI_clamp (by omega)]
      exact ⟨vp_in_nI (by omega) (by decide), vp_in_nI (by omega) (by decide), nm_e (nm_e (h2 post n (by omega) h))⟩
    · obtain ⟨n, rfl⟩ : ∃ n', n = n' + 1 := ⟨n - 1, by omega⟩
      refine br_f (nI_ge (by omega) (by omega)) ?_
      rw [nI_1, nI_clamp (by omega), nI_clamp (by omega)]
      exact ⟨vp_in_nI (by omega) (by decide), vp_in_nI (by omega) (by decide), nm_e (nm_e (h3 post n (by omega) h))⟩
end
theorem i_vc_insert {k : Nat} {u : SX} {v : SY} (I : i_Rel k u v) (hk : k + 5 ≤ 2560) (v1 : Int32) (v2 : Int32) : wpX_insert (fun r u' => wpY_insert (fun r' v' => r' = r ∧ i_Rel (k + 5) u' v') v v1 v2) u v1 v2 := by
  have I2 := i_up I
  obtain ⟨_, q, L, n, gt, gn, gz, sc, yt, pd, pa, tk, af, rs, tx, oc, nr, ns, ne, nd, ss, sp, sd, tok, len, nxt, dos, ag, tc, tp, td, kp, rfl, rfl, hI⟩ := I
  have hL := hI.2.1
  rcases pi_ix v1 (n := L + 1) (by omega) with h | ⟨p, hp, rfl⟩
  · refine br_c (fun h1 => br_t h1 ⟨rfl, I2⟩) (fun h1 => ?_)
    have h2 : nI L < v1 := by
      rcases h with h | h
      · exact absurd h h1
      · exact Int32.lt_of_lt_of_le (nI_lt (by omega) (by omega)) h
    exact br_t h2 (br_f h1 (br_t h2 ⟨rfl, I2⟩))
  · refine br_f (nI_pos (by omega)) (br_f (nI_nlt (by omega) (by omega)) ?_)
    by_cases hl : ¬ v2 < 97 ∧ ¬ 122 < v2
    · refine px_iLt hl (br_f (by decide) ?_)
      by_cases h16 : L < 16
      · obtain ⟨h1, h2, h3, h4, h5, h6, h7, h8, h9⟩ := hI
        obtain ⟨tx', a1, a2, a3⟩ := pi_ins (pc := nI q) (nc := nI n) (sc := sc) (pd := pd) (pa := pa) (tk := tk) (af := af) (rs := rs) (oc := oc) (nr := nr) (ns := ns) (ne := ne) (nd := nd) (ss := ss) (sp := sp) (sd := sd) (yt := yt) (yk := nI n) (tok := tok) (len := len) (nxt := nxt) (dos := dos) (ag := ag) (tc := tc) (tp := tp) (td := td) (kp := kp) (p := p) h16 (by omega) (Int32.not_lt.mp hl.1) (L - p) tx (by omega) (fun i hi hne => h7 i (by omega))
        have e : p + (L - p) = L := by omega
        rw [e] at a2 a3
        refine br_t (nI_lt (b := 16) h16 (by omega)) ⟨L - p + 1, a2 _ _ (by omega) ?_⟩
        refine br_f (nI_pos (by omega)) (br_f (nI_nlt (by omega) (by omega)) (py_iLt hl (br_f (by decide) ?_)))
        refine br_f (fun e => ?_) ⟨L - p + 1, a3 _ _ (by omega) ⟨rfl, pi_mk ⟨h1, by omega, h3, h4, h5, h6, a1, h8, h9⟩⟩⟩
        rw [show (16 : Int32) = nI 16 from rfl, nI_eq (by omega) (by omega)] at e
        omega
      · refine br_f (nI_nlt (b := 16) (by omega) (by omega)) ?_
        refine br_f (nI_pos (by omega)) (br_f (nI_nlt (by omega) (by omega)) (py_iLt hl (br_f (by decide) (br_t ?_ ⟨rfl, I2⟩))))
        rw [show L = 16 from by omega]; rfl
    · refine px_iLf hl (br_t rfl ?_)
      exact br_f (nI_pos (by omega)) (br_f (nI_nlt (by omega) (by omega)) (py_iLf hl (br_t rfl ⟨rfl, I2⟩)))
theorem i_vc_erase {k : Nat} {u : SX} {v : SY} (I : i_Rel k u v) (hk : k + 5 ≤ 2560) (v1 : Int32) : wpX_erase (fun r u' => wpY_erase (fun r' v' => r' = r ∧ i_Rel (k + 5) u' v') v v1) u v1 := by
  have I2 := i_up I
  obtain ⟨_, q, L, n, gt, gn, gz, sc, yt, pd, pa, tk, af, rs, tx, oc, nr, ns, ne, nd, ss, sp, sd, tok, len, nxt, dos, ag, tc, tp, td, kp, rfl, rfl, hI⟩ := I
  have hL := hI.2.1
  unfold wpX_erase
  rcases pi_ix v1 (n := L) (by omega) with h | ⟨p, hp, rfl⟩
  · refine px_hL0 h (br_t rfl ?_)
    exact br_c (fun _ => ⟨rfl, I2⟩) (fun h1 => br_f (by rcases h with h | h; exact absurd h h1; exact Int32.not_lt.mpr h) ⟨rfl, I2⟩)
  · obtain ⟨h1, h2, h3, h4, h5, h6, h7, h8, h9⟩ := hI
    obtain ⟨L, rfl⟩ : ∃ L', L = L' + 1 := ⟨L - 1, by omega⟩
    obtain ⟨tx', a1, a2, a3⟩ := pi_era (pc := nI q) (nc := nI n) (sc := sc) (pd := pd) (pa := pa) (tk := tk) (af := af) (rs := rs) (oc := oc) (nr := nr) (ns := ns) (ne := ne) (nd := nd) (ss := ss) (sp := sp) (sd := sd) (yt := yt) (yk := nI n) (tok := tok) (len := len) (nxt := nxt) (dos := dos) (ag := ag) (tc := tc) (tp := tp) (td := td) (kp := kp) (L := L) (by omega) (L - p) p tx (by omega) h7
    refine px_hL1 hL hp (br_f (by decide) (nm_r (nI_pred L) ⟨L - p + 1, a2 _ _ (by omega) ?_⟩))
    refine br_f (nI_pos (by omega)) (br_t (nI_lt hp (by omega)) (nm_r (nI_pred L) ⟨L - p + 1, a3 _ _ (by omega) ⟨rfl, pi_mk ⟨h1, by omega, h3, h4, h5, h6, fun i hi => a1 i (by omega), h8, h9⟩⟩⟩))
end
section
theorem pi_3 {x : Int32} (h1 : ¬ x < 0) (h : x < 0 ∨ nI 4 ≤ x) : (3 : Int32) < x := by
  rcases h with h | h
  · exact absurd h h1
  · exact Int32.lt_of_lt_of_le (show (3 : Int32) < nI 4 from by decide) h
theorem i_vc_parse {k : Nat} {u : SX} {v : SY} (I : i_Rel k u v) (hk : k + 5 ≤ 2560) (v1 : Int32) (v2 : Int32) : wpX_parse (fun r u' => wpY_parse (fun r' v' => r' = r ∧ i_Rel (k + 5) u' v') v v1 v2) u v1 v2 := by
  have I2 := i_up I
  obtain ⟨_, q, L, n, gt, gn, gz, sc, yt, pd, pa, tk, af, rs, tx, oc, nr, ns, ne, nd, ss, sp, sd, tok, len, nxt, dos, ag, tc, tp, td, kp, rfl, rfl, hI⟩ := I
  obtain ⟨h1, hL, h3, hw, hGX, hGY, hX, h8, h9⟩ := hI
  unfold wpX_parse
  rcases pi_ix v1 (n := 4) (by omega) with h | ⟨r, hr, rfl⟩
  · refine px_iRf h (br_t rfl ?_)
    exact br_c (fun _ => ⟨rfl, I2⟩) (fun g => br_t (pi_3 g h) ⟨rfl, I2⟩)
  refine px_iRt hr (br_f (by decide) ?_)
  rcases pi_ix v2 (n := L + 1) (by omega) with h | ⟨p, hp, rfl⟩
  · refine br_c (fun g => ?_) (fun g => ?_)
    · exact br_f (nI_pos (by omega)) (br_f (nI_nlt (a := 3) (by omega) (by omega)) (br_t g ⟨rfl, I2⟩))
    · have h2 : ¬ v2 ≤ nI L := by
        rcases h with h | h
        · exact absurd h g
        · exact Int32.not_le.mpr (Int32.lt_of_lt_of_le (nI_lt (by omega) (by omega)) h)
      exact br_f h2 (br_f (nI_pos (by omega)) (br_f (nI_nlt (a := 3) (by omega) (by omega)) (br_f g (br_f h2 ⟨rfl, I2⟩))))
  have hpL : p ≤ L := by omega
  obtain ⟨oc', T, gX, hTX, fX, hset⟩ := px_settle (pc := nI q) (nc := nI n) (sc := sc) (pd := pd) (pa := pa) (nr := nr) (ns := ns) (ne := ne) (nd := nd) (ss := ss) (sp := sp) (sd := sd) (tx := tx) hw hL rfl hGX oc
  refine br_f (nI_pos (by omega)) (br_t (nI_le hpL (by omega)) (hset _ ?_))
  have hz := hw.1 r hr
  refine px_rO r p (gz r) rfl rfl hr (by omega) (hGX.2 r hr) hz ?_
  have hy : ∀ {post : Int32 → SY → Prop}, (gz r = 0 → post (-2) (nI L, yt, 0, tok, len, nxt, tx, dos, ag, tc, tp, td, kp)) → (gz r ≠ 0 → wpY_table (fun u => match u with | (yl, yt, yk, tok, len, nxt, tx, dos, ag, tc, tp, td, kp) => vp_in ((204 * nI r) + nI p) 816 ∧ (∀ x3_22 : Int32, x3_22 = dos ((204 * nI r) + nI p).toNatClampNeg → (((x3_22 < 0 → (post x3_22 (yl, yt, yk, tok, len, nxt, tx, dos, ag, tc, tp, td, kp))) ∧ (¬ x3_22 < 0 → (wpY_tree (fun u => match u with | (yl, yt, yk, tok, len, nxt, tx, dos, ag, tc, tp, td, kp) => (post x3_22 (yl, yt, yk, tok, len, nxt, tx, dos, ag, tc, tp, td, kp))) (yl, yt, yk, tok, len, nxt, tx, dos, ag, tc, tp, td, kp) (nI r) (nI p) x3_22)))))) (nI L, yt, 0, tok, len, nxt, tx, dos, ag, tc, tp, td, kp)) → wpY_parse post (nI L, yt, nI n, tok, len, nxt, tx, dos, ag, tc, tp, td, kp) (nI r) (nI p) := by
    intro post ha hb
    refine br_f (nI_pos (by omega)) (br_f (nI_nlt (a := 3) (by omega) (by omega)) (br_f (nI_pos (by omega)) (br_t (nI_le hpL (by omega)) ⟨vp_in_nI (by omega) (by decide), ?_⟩)))
    rw [nI_clamp (by omega), hGY.2 r hr]
    by_cases z : gz r = 0
    · exact br_t (by rw [z]; rfl) (ha z)
    · exact br_f (nI_ne0 (by omega) (by omega)) (hb z)
  by_cases z : gz r = 0
  · rw [if_pos z]
    refine br_t (by decide) (hy (fun _ => ⟨rfl, ?_⟩) (fun z2 => absurd z z2))
    exact pi_mk (n := 0) ⟨h1, hL, by omega, hw, hGX, hGY, hX, fun i hi => absurd hi (by omega), h9⟩
  rw [if_neg z]
  have lr := pg_lv_r hw hr z
  have hlr := lr.1
  rw [hTX _ (by omega)]
  obtain ⟨dos', ag', TY, gY, hTY, fY, htab⟩ := py_table (yl := nI L) (yt := yt) (yk := 0) (tok := tok) (len := len) (nxt := nxt) (tx := tx) (tc := tc) (tp := tp) (td := td) (kp := kp) hw hL rfl hX hGY dos ag
  have hD : ∀ s p, pg_lv gz s → p ≤ L → dos' (17 * s + p) = pg_en (T (17 * s + p)) := by
    intro s p hs hp
    have hs1 := hs.1
    rw [hTY.1 _ (by omega), pg_same hw hL gX fX gY fY hs hp]
  have hH : pt_H gt gn gz T L (pg_m gt tx L) tk af rs oc' tok len nxt dos' := ⟨hw, hL, hGX, hGY, gX.1, fun s p hs hp => hTX _ (by have := hs.1; omega), hD, fun s p hs hp => pg_fx hL fX hs hp⟩
  have e204 : 204 * nI r + nI p = nI (17 * (12 * r) + p) := by
    rw [show (204 : Int32) = nI 204 from rfl, pk_mul, nI_add]; exact congrArg nI (by omega)
  have hN0 : ∀ kp nr ns ne nd, pg_N 0 nr ns ne nd kp := fun _ _ _ _ _ i hi => absurd hi (by omega)
  have hb := pg_bx gX.1 hL lr hpL
  have low : T (17 * (12 * r) + p) < 2 → pg_en (T (17 * (12 * r) + p)) < 0 := by
    intro h
    have h2 : T (17 * (12 * r) + p) = 0 ∨ T (17 * (12 * r) + p) = 1 := by omega
    rcases h2 with h2 | h2
    · rw [h2]; decide
    · rw [h2]; decide
  rcases pg_bd3 hb with e | e | ⟨j, j1, j2, e⟩
  · refine br_t (low (by omega)) (hy (fun z2 => absurd z2 z) (fun _ => htab _ ⟨?_, nm_r (e' := pg_en (T (17 * (12 * r) + p))) ?_ (br_t (low (by omega)) ⟨rfl, pi_mk (n := 0) ⟨h1, hL, by omega, hw, hGX, hGY, hX, hN0 _ _ _ _ _, h9⟩⟩)⟩))
    · rw [e204]; exact vp_in_nI (by omega) (by decide)
    · rw [e204, nI_clamp (by omega)]; exact hD _ _ lr hpL
  · refine br_t (low (by omega)) (hy (fun z2 => absurd z2 z) (fun _ => htab _ ⟨?_, nm_r (e' := pg_en (T (17 * (12 * r) + p))) ?_ (br_t (low (by omega)) ⟨rfl, pi_mk (n := 0) ⟨h1, hL, by omega, hw, hGX, hGY, hX, hN0 _ _ _ _ _, h9⟩⟩)⟩))
    · rw [e204]; exact vp_in_nI (by omega) (by decide)
    · rw [e204, nI_clamp (by omega)]; exact hD _ _ lr hpL
  · have hge : ¬ pg_en (T (17 * (12 * r) + p)) < 0 := by rw [e, en_3]; exact nI_pos (by omega)
    obtain ⟨n', m', nr', ns', ne', nd', ss', sp', sd', tc', tp', td', kp', b1, b2, b3, b4⟩ := pt_tree (pc := nI q) (ln := nI L) (pd := pd) (pa := pa) (tx := tx) (yl := nI L) (ag := ag') hH hr z hpL (by omega) sc yt nr ns ne nd ss sp sd tc tp td kp
    refine br_f hge (b3 _ (hy (fun z2 => absurd z2 z) (fun _ => htab _ ⟨?_, nm_r (e' := pg_en (T (17 * (12 * r) + p))) ?_ (br_f hge (b4 _ ⟨rfl, pi_mk ⟨h1, hL, b2, hw, hGX, hGY, hX, b1, h9⟩⟩))⟩)))
    · rw [e204]; exact vp_in_nI (by omega) (by decide)
    · rw [e204, nI_clamp (by omega)]; exact hD _ _ lr hpL
end
section
def pv_ok (x : Int32) : Prop := x = 0 ∨ ∃ t, pg_tv t ∧ x = nI t
theorem pv_N {t : Nat} (ht : t < 2 ^ 31) : pv_ok (nI t) ↔ t = 0 ∨ pg_tv t := by
  constructor
  · rintro (h | ⟨s, hs, h⟩)
    · rw [← nI_0, nI_eq ht (by omega)] at h; exact Or.inl h
    · have h2 : s < 2 ^ 31 := by unfold pg_tv at hs; omega
      rw [nI_eq ht h2] at h; rw [h]; exact Or.inr hs
  · rintro (h | h)
    · rw [h]; exact Or.inl rfl
    · exact Or.inr ⟨t, h, rfl⟩
theorem pv_neg {x : Int32} (h : x < 0) : ¬ pv_ok x := by
  rintro (h2 | ⟨s, hs, h2⟩)
  · rw [h2] at h; exact absurd h (by decide)
  · rw [h2] at h; exact nI_pos (by unfold pg_tv at hs; omega) h
theorem px_mp {post : Int32 → Prop} {x : Int32} (h1 : pv_ok x → post 1) (h0 : ¬ pv_ok x → post 0) : wpX_mayBePut post x := by
  by_cases hx : x < 0
  · have h0 := h0 (pv_neg hx)
    refine br_f (fun e => absurd (e ▸ hx) (by decide)) (br_t (Int32.lt_of_lt_of_le hx (by decide)) (br_t rfl (br_t (Int32.lt_of_lt_of_le hx (by decide)) (br_t rfl (br_t (Int32.lt_of_lt_of_le hx (by decide)) (br_t (Int32.lt_of_lt_of_le hx (by decide)) h0))))))
  · obtain ⟨t, ht, rfl⟩ := nI_of hx
    rw [pv_N ht] at h1 h0
    unfold pg_tv at h1 h0
    have k28 : ¬ (t = 0 ∨ (97 ≤ t ∧ t ≤ 122) ∨ (20 ≤ t ∧ t ≤ 23) ∨ (1 ≤ t ∧ t ≤ 3)) → wX_mayBePut_28 post (nI t) := fun hn =>
      pk_lt t 10 (fun a => h0 (by omega)) (fun a => pk_lt 16 t (fun b => h0 (by omega)) (fun b => h1 (by omega)))
    have kr : ¬ (t = 0 ∨ (97 ≤ t ∧ t ≤ 122) ∨ (20 ≤ t ∧ t ≤ 23)) → ((nI t < 1 → wX_mayBePut_28 post (nI t)) ∧ (¬ nI t < 1 → ((nI t ≤ 3 → post 1) ∧ (¬ nI t ≤ 3 → wX_mayBePut_28 post (nI t))))) := fun hn =>
      pk_lt t 1 (fun a => k28 (by omega)) (fun a => pk_le t 3 (fun b => h1 (by omega)) (fun b => k28 (by omega)))
    refine pk_eq t 0 (fun a => h1 (by omega)) (fun a => ?_)
    refine pk_lt t 97 (fun b => br_t rfl ?_) (fun b => pk_lt 122 t (fun c => br_t rfl ?_) (fun c => br_f (by decide) (h1 (by omega))))
    · exact pk_lt t 20 (fun c => br_t rfl (kr (by omega))) (fun c => pk_le 24 t (fun d => br_t rfl (kr (by omega))) (fun d => br_f (by decide) (h1 (by omega))))
    · exact pk_lt t 20 (fun c => br_t rfl (kr (by omega))) (fun c => pk_le 24 t (fun d => br_t rfl (kr (by omega))) (fun d => br_f (by decide) (h1 (by omega))))
theorem py_vd {post : Int32 → Prop} {x : Int32} (h1 : pv_ok x → post 1) (h0 : ¬ pv_ok x → post 0) : wpY_valid post x := by
  by_cases hx : x < 0
  · have h0 := h0 (pv_neg hx)
    exact br_t hx (br_t (Int32.lt_of_lt_of_le hx (by decide)) (br_t (Int32.lt_of_lt_of_le hx (by decide)) (br_t (Int32.lt_of_lt_of_le hx (by decide)) (br_t rfl h0))))
  · obtain ⟨t, ht, rfl⟩ := nI_of hx
    rw [pv_N ht] at h1 h0
    unfold pg_tv at h1 h0
    have k33 : ¬ (t ≤ 3 ∨ (10 ≤ t ∧ t ≤ 16) ∨ (20 ≤ t ∧ t ≤ 23)) → wY_valid_33 post (nI t) := fun hn =>
      pk_lt t 97 (fun a => br_t rfl (h0 (by omega))) (fun a => pk_lt 122 t (fun b => br_t rfl (h0 (by omega))) (fun b => br_f (by decide) (h1 (by omega))))
    have k21 : ¬ (t ≤ 3 ∨ (10 ≤ t ∧ t ≤ 16)) → wY_valid_21 post (nI t) := fun hn =>
      pk_lt t 20 (fun a => k33 (by omega)) (fun a => pk_le t 23 (fun b => h1 (by omega)) (fun b => k33 (by omega)))
    have k9 : ¬ (t ≤ 3) → wY_valid_9 post (nI t) := fun hn =>
      pk_lt t 10 (fun a => k21 (by omega)) (fun a => pk_le t 16 (fun b => h1 (by omega)) (fun b => k21 (by omega)))
    exact br_f hx (pk_le t 3 (fun b => h1 (by omega)) (fun b => k9 (by omega)))
def pv_c (x : Int32) : Nat := if x = 0 then 0 else 1
theorem pv_c0 {x : Int32} (h : x = 0) : pv_c x = 0 := if_pos h
theorem pv_c1 {x : Int32} (h : ¬ x = 0) : pv_c x = 1 := if_neg h
theorem pv_c2 (x : Int32) : pv_c x ≤ 1 := by unfold pv_c; split <;> omega
section
variable {pc ln nc sc : Int32} {pd pa tk af rs tx oc nr ns ne nd ss sp sd : Nat → Int32} {a b c d : Int32}
theorem px_cnt {post : Int32 → SX → Prop} (H : ∀ z0 z1 : Int32, z1 + z0 = nI (pv_c a + pv_c b + pv_c c + pv_c d) → wX_put_70 post a b c d z0 z1 pc ln nc sc pd pa tk af rs tx oc nr ns ne nd ss sp sd) : (a = 0 → wX_put_40 post a b c d 0 pc ln nc sc pd pa tk af rs tx oc nr ns ne nd ss sp sd) ∧ (¬ a = 0 → wX_put_40 post a b c d 1 pc ln nc sc pd pa tk af rs tx oc nr ns ne nd ss sp sd) := by
  refine br_c (fun ha => br_c (fun hb => br_c (fun hc => br_c (fun hd => ?_) (fun hd => ?_)) (fun hc => br_c (fun hd => ?_) (fun hd => ?_))) (fun hb => br_c (fun hc => br_c (fun hd => ?_) (fun hd => ?_)) (fun hc => br_c (fun hd => ?_) (fun hd => ?_)))) (fun ha => br_c (fun hb => br_c (fun hc => br_c (fun hd => ?_) (fun hd => ?_)) (fun hc => br_c (fun hd => ?_) (fun hd => ?_))) (fun hb => br_c (fun hc => br_c (fun hd => ?_) (fun hd => ?_)) (fun hc => br_c (fun hd => ?_) (fun hd => ?_))))
  all_goals
    refine H _ _ ?_
    first
    | rw [pv_c0 ha] | rw [pv_c1 ha]
    first
    | rw [pv_c0 hb] | rw [pv_c1 hb]
    first
    | rw [pv_c0 hc] | rw [pv_c1 hc]
    first
    | rw [pv_c0 hd] | rw [pv_c1 hd]
    rfl
end
section
variable {yl yt yk : Int32} {tok len nxt tx dos ag tc tp td kp : Nat → Int32} {a b c d : Int32}
theorem py_cnt {post : Int32 → SY → Prop} (H : ∀ z0 z1 : Int32, z1 + z0 = nI (pv_c a + pv_c b + pv_c c + pv_c d) → wY_put_39 post a b c d z0 z1 yl yt yk tok len nxt tx dos ag tc tp td kp) : wpY_put post (yl, yt, yk, tok, len, nxt, tx, dos, ag, tc, tp, td, kp) a b c d := by
  refine br_c (fun ha => br_c (fun hb => br_c (fun hc => br_c (fun hd => ?_) (fun hd => ?_)) (fun hc => br_c (fun hd => ?_) (fun hd => ?_))) (fun hb => br_c (fun hc => br_c (fun hd => ?_) (fun hd => ?_)) (fun hc => br_c (fun hd => ?_) (fun hd => ?_)))) (fun ha => br_c (fun hb => br_c (fun hc => br_c (fun hd => ?_) (fun hd => ?_)) (fun hc => br_c (fun hd => ?_) (fun hd => ?_))) (fun hb => br_c (fun hc => br_c (fun hd => ?_) (fun hd => ?_)) (fun hc => br_c (fun hd => ?_) (fun hd => ?_))))
  all_goals
    refine H _ _ ?_
    first
    | rw [pv_c0 ha] | rw [pv_c1 ha]
    first
    | rw [pv_c0 hb] | rw [pv_c1 hb]
    first
    | rw [pv_c0 hc] | rw [pv_c1 hc]
    first
    | rw [pv_c0 hd] | rw [pv_c1 hd]
    rfl
end
/-- the list, and what of tok and len is not of the list -/
def pv_A (q : Nat) (pd tok len tok0 len0 : Nat → Int32) : Prop := pg_P q pd tok len ∧ (∀ s, s < 48 → tok s = tok0 s) ∧ ∀ r, r < 4 → len r = len0 r
section
variable {ln nc sc : Int32} {pa tk af rs tx oc nr ns ne nd ss sp sd : Nat → Int32} {yl yt yk : Int32} {nxt dos ag tc tp td kp tok0 len0 : Nat → Int32}
theorem pv_add {q : Nat} {pd tok len : Nat → Int32} {x : Int32} (hA : pv_A q pd tok len tok0 len0) (hv : pv_ok x) (hq : q + pv_c x ≤ 12) : ∃ pd' tok' len' : Nat → Int32, pv_A (q + pv_c x) pd' tok' len' tok0 len0 ∧ (∀ post : SX → Prop, post (nI (q + pv_c x), ln, nc, sc, pd', pa, tk, af, rs, tx, oc, nr, ns, ne, nd, ss, sp, sd) → wpX_addPending post (nI q, ln, nc, sc, pd, pa, tk, af, rs, tx, oc, nr, ns, ne, nd, ss, sp, sd) x) ∧ (∀ post : SY → Prop, post (yl, yt, yk, tok', len', nxt, tx, dos, ag, tc, tp, td, kp) → wpY_add post (yl, yt, yk, tok, len, nxt, tx, dos, ag, tc, tp, td, kp) x) := by
  obtain ⟨⟨h1, h2⟩, h3, h4⟩ := hA
  by_cases hx : x = 0
  · rw [pv_c0 hx]
    exact ⟨pd, tok, len, ⟨⟨h1, h2⟩, h3, h4⟩, fun post h => br_t hx h, fun post h => br_t hx h⟩
  · rw [pv_c1 hx] at hq ⊢
    obtain ⟨t, ht, ex⟩ : ∃ t, pg_tv t ∧ x = nI t := by
      rcases hv with h | h
      · exact absurd h hx
      · exact h
    refine ⟨upd pd q x, upd tok (48 + q) x, upd len 4 (nI (q + 1)), ⟨⟨pk_us, fun k hk => ?_⟩, fun s hs => ?_, fun r hr => ?_⟩, fun post h => ?_, fun post h => ?_⟩
    · by_cases e : k = q
      · subst e; exact ⟨t, ht, by rw [pk_us]; exact ex, by rw [pk_us]; exact ex⟩
      · rw [pk_un e, pk_un (by omega)]; exact h2 k (by omega)
    · rw [pk_un (by omega)]; exact h3 s hs
    · rw [pk_un (by omega)]; exact h4 r hr
    · refine br_f hx (br_f (nI_ge (b := 12) (by omega) (by omega)) ⟨vp_in_nI (by omega) (by decide), ?_⟩)
      rw [nI_clamp (by omega)]
      exact nm_e (nm_r (nI_1 q) h)
    · refine br_f hx ?_
      rw [h1, show (48 : Int32) + nI q = nI (48 + q) from by rw [show (48 : Int32) = nI 48 from rfl, nI_add], nI_clamp (by omega)]
      exact ⟨vp_in_nI (by omega) (by decide), nm_e (nm_r (by rw [nI_1]) h)⟩
end
theorem i_vc_put {k : Nat} {u : SX} {v : SY} (I : i_Rel k u v) (hk : k + 5 ≤ 2560) (v1 : Int32) (v2 : Int32) (v3 : Int32) (v4 : Int32) : wpX_put (fun r u' => wpY_put (fun r' v' => r' = r ∧ i_Rel (k + 5) u' v') v v1 v2 v3 v4) u v1 v2 v3 v4 := by
  have I2 := i_up I
  obtain ⟨_, q, L, n, gt, gn, gz, sc, yt, pd, pa, tk, af, rs, tx, oc, nr, ns, ne, nd, ss, sp, sd, tok, len, nxt, dos, ag, tc, tp, td, kp, rfl, rfl, hI⟩ := I
  obtain ⟨hq, hL, h3, hw, hGX, hGY, hX, h8, h9⟩ := hI
  unfold wpX_put
  by_cases a1 : pv_ok v1
  case neg =>
    refine px_mp (fun h => absurd h a1) (fun _ => br_t rfl (py_cnt fun z0 z1 hz => nm_r hz ?_))
    exact py_vd (fun h => absurd h a1) (fun _ => br_t rfl ⟨rfl, I2⟩)
  by_cases a2 : pv_ok v2
  case neg =>
    refine px_mp (fun _ => br_f (by decide) (px_mp (fun h => absurd h a2) (fun _ => br_t rfl (py_cnt fun z0 z1 hz => nm_r hz ?_)))) (fun h => absurd a1 h)
    exact py_vd (fun _ => br_f (by decide) (py_vd (fun h => absurd h a2) (fun _ => br_t rfl ⟨rfl, I2⟩))) (fun h => absurd a1 h)
  by_cases a3 : pv_ok v3
  case neg =>
    refine px_mp (fun _ => br_f (by decide) (px_mp (fun _ => br_f (by decide) (px_mp (fun h => absurd h a3) (fun _ => br_t rfl (py_cnt fun z0 z1 hz => nm_r hz ?_)))) (fun h => absurd a2 h))) (fun h => absurd a1 h)
    exact py_vd (fun _ => br_f (by decide) (py_vd (fun _ => br_f (by decide) (py_vd (fun h => absurd h a3) (fun _ => br_t rfl ⟨rfl, I2⟩))) (fun h => absurd a2 h))) (fun h => absurd a1 h)
  by_cases a4 : pv_ok v4
  case neg =>
    refine px_mp (fun _ => br_f (by decide) (px_mp (fun _ => br_f (by decide) (px_mp (fun _ => br_f (by decide) (px_mp (fun h => absurd h a4) (fun _ => br_t rfl (py_cnt fun z0 z1 hz => nm_r hz ?_)))) (fun h => absurd a3 h))) (fun h => absurd a2 h))) (fun h => absurd a1 h)
    exact py_vd (fun _ => br_f (by decide) (py_vd (fun _ => br_f (by decide) (py_vd (fun _ => br_f (by decide) (py_vd (fun h => absurd h a4) (fun _ => br_t rfl ⟨rfl, I2⟩))) (fun h => absurd a3 h))) (fun h => absurd a2 h))) (fun h => absurd a1 h)
  refine px_mp (fun _ => br_f (by decide) (px_mp (fun _ => br_f (by decide) (px_mp (fun _ => br_f (by decide) (px_mp (fun _ => br_f (by decide) (px_cnt fun z0 z1 hz => nm_r hz ?_)) (fun h => absurd a4 h))) (fun h => absurd a3 h))) (fun h => absurd a2 h))) (fun h => absurd a1 h)
  have c1 := pv_c2 v1
  have c2 := pv_c2 v2
  have c3 := pv_c2 v3
  have c4 := pv_c2 v4
  have hlen := h9.1
  have e1 : nI q + nI (pv_c v1 + pv_c v2 + pv_c v3 + pv_c v4) = nI (q + (pv_c v1 + pv_c v2 + pv_c v3 + pv_c v4)) := nI_add _ _
  by_cases hc : q + (pv_c v1 + pv_c v2 + pv_c v3 + pv_c v4) ≤ 12
  · have hA : pv_A q pd tok len tok len := ⟨h9, fun _ _ => rfl, fun _ _ => rfl⟩
    obtain ⟨pd1, tok1, len1, A1, X1, Y1⟩ := pv_add (ln := nI L) (nc := nI n) (sc := sc) (pa := pa) (tk := tk) (af := af) (rs := rs) (tx := tx) (oc := oc) (nr := nr) (ns := ns) (ne := ne) (nd := nd) (ss := ss) (sp := sp) (sd := sd) (yl := nI L) (yt := yt) (yk := nI n) (nxt := nxt) (dos := dos) (ag := ag) (tc := tc) (tp := tp) (td := td) (kp := kp) hA a1 (by omega)
    obtain ⟨pd2, tok2, len2, A2, X2, Y2⟩ := pv_add (ln := nI L) (nc := nI n) (sc := sc) (pa := pa) (tk := tk) (af := af) (rs := rs) (tx := tx) (oc := oc) (nr := nr) (ns := ns) (ne := ne) (nd := nd) (ss := ss) (sp := sp) (sd := sd) (yl := nI L) (yt := yt) (yk := nI n) (nxt := nxt) (dos := dos) (ag := ag) (tc := tc) (tp := tp) (td := td) (kp := kp) A1 a2 (by omega)
    obtain ⟨pd3, tok3, len3, A3, X3, Y3⟩ := pv_add (ln := nI L) (nc := nI n) (sc := sc) (pa := pa) (tk := tk) (af := af) (rs := rs) (tx := tx) (oc := oc) (nr := nr) (ns := ns) (ne := ne) (nd := nd) (ss := ss) (sp := sp) (sd := sd) (yl := nI L) (yt := yt) (yk := nI n) (nxt := nxt) (dos := dos) (ag := ag) (tc := tc) (tp := tp) (td := td) (kp := kp) A2 a3 (by omega)
    obtain ⟨pd4, tok4, len4, A4, X4, Y4⟩ := pv_add (ln := nI L) (nc := nI n) (sc := sc) (pa := pa) (tk := tk) (af := af) (rs := rs) (tx := tx) (oc := oc) (nr := nr) (ns := ns) (ne := ne) (nd := nd) (ss := ss) (sp := sp) (sd := sd) (yl := nI L) (yt := yt) (yk := nI n) (nxt := nxt) (dos := dos) (ag := ag) (tc := tc) (tp := tp) (td := td) (kp := kp) A3 a4 (by omega)
    rw [e1]
    refine br_t (nI_le (b := 12) hc (by omega)) (X1 _ (X2 _ (X3 _ (X4 _ (py_cnt fun z0 z1 hz => nm_r hz ?_)))))
    refine py_vd (fun _ => br_f (by decide) (py_vd (fun _ => br_f (by decide) (py_vd (fun _ => br_f (by decide) (py_vd (fun _ => br_f (by decide) ?_) (fun h => absurd a4 h))) (fun h => absurd a3 h))) (fun h => absurd a2 h))) (fun h => absurd a1 h)
    rw [hlen, e1]
    refine br_t (nI_le (b := 12) hc (by omega)) (Y1 _ (Y2 _ (Y3 _ (Y4 _ ⟨A4.1.1, ?_⟩))))
    obtain ⟨A5, A6, A7⟩ := A4
    refine pi_mk ⟨by omega, hL, h3, hw, hGX, ⟨fun s hs => ?_, fun r hr => ?_⟩, hX, h8, A5⟩
    · rw [A6 s hs.1]; exact hGY.1 s hs
    · rw [A7 r hr]; exact hGY.2 r hr
  · rw [e1]
    refine br_f (nI_ge (a := 12) (by omega) (by omega)) (py_cnt fun z0 z1 hz => nm_r hz ?_)
    refine py_vd (fun _ => br_f (by decide) (py_vd (fun _ => br_f (by decide) (py_vd (fun _ => br_f (by decide) (py_vd (fun _ => br_f (by decide) ?_) (fun h => absurd a4 h))) (fun h => absurd a3 h))) (fun h => absurd a2 h))) (fun h => absurd a1 h)
    rw [hlen, e1]
    exact br_f (nI_ge (a := 12) (by omega) (by omega)) ⟨rfl, I2⟩
end
section
def pd_ap (n : Nat) (e : Nat → Nat) (j : Nat) : Nat := if 0 < j ∧ j < n then e j else 0
/-- where the expression at k ends, 0 if the list breaks off -/
def pd_ms (n : Nat) (t e : Nat → Nat) (k : Nat) : Nat :=
  if t k = 3 then (if k + 2 < n ∧ (97 ≤ t (k + 1) ∧ t (k + 1) ≤ 122) ∧ (97 ≤ t (k + 2) ∧ t (k + 2) ≤ 122) then k + 3 else 0)
  else if t k = 10 ∨ t k = 11 then pd_ap n e (pd_ap n e (k + 1))
  else if 12 ≤ t k ∧ t k ≤ 16 then pd_ap n e (k + 1)
  else k + 1
/-- the measures, from the last token on: j of them are done -/
def pd_E (n : Nat) (t : Nat → Nat) : Nat → Nat → Nat
  | 0 => fun _ => 0
  | j + 1 => pu_set (pd_E n t j) (n - 1 - j) (pd_ms n t (pd_E n t j) (n - 1 - j))
def pd_bd (n k v : Nat) : Prop := v = 0 ∨ (k < v ∧ v ≤ n)
section
variable {n : Nat} {t e e' : Nat → Nat}
theorem pd_ap_0 {j : Nat} (h : ¬ (0 < j ∧ j < n)) : pd_ap n e j = 0 := if_neg h
theorem pd_ap_1 {j : Nat} (h0 : 0 < j) (h1 : j < n) : pd_ap n e j = e j := if_pos ⟨h0, h1⟩
theorem pd_ap_bd {j : Nat} (h : j < n → pd_bd n j (e j)) : pd_bd n j (pd_ap n e j) := by
  unfold pd_ap
  split
  · exact h (by omega)
  · exact Or.inl rfl
theorem pd_ms_bd {k : Nat} (hk : k < n) (h : ∀ i, k < i → i < n → pd_bd n i (e i)) : pd_bd n k (pd_ms n t e k) := by
  have h1 : pd_bd n (k + 1) (pd_ap n e (k + 1)) := pd_ap_bd fun h2 => h _ (by omega) h2
  unfold pd_ms
  split
  · split
    · unfold pd_bd; omega
    · exact Or.inl rfl
  split
  · by_cases h0 : pd_ap n e (k + 1) = 0
    · rw [h0, pd_ap_0 (by omega)]; exact Or.inl rfl
    · have h2 : pd_bd n (pd_ap n e (k + 1)) (pd_ap n e (pd_ap n e (k + 1))) := pd_ap_bd fun h3 => h _ (by unfold pd_bd at h1; omega) h3
      unfold pd_bd at *
      omega
  split
  · unfold pd_bd at *; omega
  · unfold pd_bd; omega
theorem pd_ms_congr {k : Nat} (hb : k + 1 < n → pd_bd n (k + 1) (e (k + 1))) (h : ∀ i, k < i → i < n → e i = e' i) : pd_ms n t e k = pd_ms n t e' k := by
  have h1 : pd_ap n e (k + 1) = pd_ap n e' (k + 1) := by
    unfold pd_ap
    by_cases c : 0 < k + 1 ∧ k + 1 < n
    · rw [if_pos c, if_pos c]; exact h _ (by omega) c.2
    · rw [if_neg c, if_neg c]
  have h2 : pd_ap n e (pd_ap n e (k + 1)) = pd_ap n e' (pd_ap n e' (k + 1)) := by
    rw [← h1]
    have h3 : pd_bd n (k + 1) (pd_ap n e (k + 1)) := pd_ap_bd hb
    generalize pd_ap n e (k + 1) = w at h3
    unfold pd_ap
    by_cases c : 0 < w ∧ w < n
    · rw [if_pos c, if_pos c]; exact h _ (by unfold pd_bd at h3; omega) c.2
    · rw [if_neg c, if_neg c]
  unfold pd_ms
  rw [h2, h1]
theorem pd_E_n {j k : Nat} (h : k ≠ n - 1 - j) : pd_E n t (j + 1) k = pd_E n t j k := pu_n h
theorem pd_E_s {j : Nat} : pd_E n t (j + 1) (n - 1 - j) = pd_ms n t (pd_E n t j) (n - 1 - j) := pu_s
theorem pd_E_ok : ∀ j, j ≤ n → ∀ k, n - j ≤ k → k < n → pd_bd n k (pd_E n t j k) ∧ pd_E n t j k = pd_ms n t (pd_E n t j) k := by
  intro j
  induction j with
  | zero => intro _ k h1 h2; omega
  | succ j ih =>
    intro hj k h1 h2
    have ih := ih (by omega)
    have hc : pd_ms n t (pd_E n t j) k = pd_ms n t (pd_E n t (j + 1)) k := pd_ms_congr (fun h => (ih _ (by omega) h).1) fun i hi _ => (pd_E_n (by omega)).symm
    by_cases e : k = n - 1 - j
    · have e2 : pd_E n t (j + 1) k = pd_ms n t (pd_E n t j) k := by rw [e]; exact pd_E_s
      rw [← hc, e2]
      exact ⟨pd_ms_bd h2 fun i hi hn => (ih i (by omega) hn).1, rfl⟩
    · rw [← hc, pd_E_n e]
      exact ih k (by omega) h2
theorem pd_cover (h : ∀ k, k < n → pd_bd n k (e k) ∧ e k = pd_ms n t e k) : ∀ d p, n ≤ p + d → p < n → e p ≠ 0 → ∀ q, p ≤ q → q < e p → e q ≠ 0 := by
  intro d
  induction d with
  | zero => intro p h1 h2; omega
  | succ d ih =>
    intro p hd hp h0 q hq1 hq2
    by_cases hqp : q = p
    · rw [hqp]; exact h0
    have hb := (h p hp).1
    have he := (h p hp).2
    have hb1 : p + 1 < n → pd_bd n (p + 1) (e (p + 1)) := fun h1 => (h _ h1).1
    unfold pd_ms at he
    by_cases t3 : t p = 3
    · rw [if_pos t3] at he
      by_cases c : p + 2 < n ∧ (97 ≤ t (p + 1) ∧ t (p + 1) ≤ 122) ∧ (97 ≤ t (p + 2) ∧ t (p + 2) ≤ 122)
      · rw [if_pos c] at he
        have hqt : 97 ≤ t q ∧ t q ≤ 122 := by
          have hq3 : q = p + 1 ∨ q = p + 2 := by omega
          rcases hq3 with h3 | h3
          · rw [h3]; exact c.2.1
          · rw [h3]; exact c.2.2
        have hq3 := (h q (by omega)).2
        unfold pd_ms at hq3
        rw [if_neg (by omega), if_neg (by omega), if_neg (by omega)] at hq3
        omega
      · rw [if_neg c] at he; omega
    rw [if_neg t3] at he
    by_cases t10 : t p = 10 ∨ t p = 11
    · rw [if_pos t10] at he
      by_cases c1 : 0 < p + 1 ∧ p + 1 < n
      · rw [pd_ap_1 c1.1 c1.2] at he
        by_cases c2 : 0 < e (p + 1) ∧ e (p + 1) < n
        · rw [pd_ap_1 c2.1 c2.2] at he
          by_cases hw : q < e (p + 1)
          · exact ih (p + 1) (by omega) c1.2 (by omega) q (by omega) hw
          · have hb1 := hb1 c1.2
            unfold pd_bd at hb1
            exact ih (e (p + 1)) (by omega) c2.2 (by omega) q (by omega) (by omega)
        · rw [pd_ap_0 c2] at he; omega
      · rw [pd_ap_0 c1, pd_ap_0 (by omega)] at he; omega
    rw [if_neg t10] at he
    by_cases t12 : 12 ≤ t p ∧ t p ≤ 16
    · rw [if_pos t12] at he
      by_cases c1 : 0 < p + 1 ∧ p + 1 < n
      · rw [pd_ap_1 c1.1 c1.2] at he
        exact ih (p + 1) (by omega) c1.2 (by omega) q (by omega) (by omega)
      · rw [pd_ap_0 c1] at he; omega
    rw [if_neg t12] at he
    omega
end
/-- the grammar with rule r's list set -/
def pd_g (f : Nat → Nat) (r : Nat) (t : Nat → Nat) (s : Nat) : Nat := if s / 12 = r then t (s % 12) else f s
theorem pd_g_1 {f t : Nat → Nat} {r k : Nat} (hk : k < 12) : pd_g f r t (12 * r + k) = t k := by
  unfold pd_g
  rw [if_pos (by omega), show (12 * r + k) % 12 = k from by omega]
theorem pd_g_0 {f t : Nat → Nat} {r s : Nat} (h : s / 12 ≠ r) : pd_g f r t s = f s := if_neg h
theorem pd_lv {gz : Nat → Nat} {r n s : Nat} : pg_lv (pu_set gz r n) s ↔ (s / 12 ≠ r ∧ pg_lv gz s) ∨ (s / 12 = r ∧ s < 48 ∧ s % 12 < n) := by
  unfold pg_lv
  by_cases h : s / 12 = r
  · rw [h, pu_s]
    constructor
    · intro h2; exact Or.inr ⟨rfl, h2.1, h2.2⟩
    · rintro (h2 | h2)
      · exact absurd rfl h2.1
      · exact ⟨h2.2.1, h2.2.2⟩
  · rw [pu_n h]
    constructor
    · intro h2; exact Or.inl ⟨h, h2⟩
    · rintro (h2 | h2)
      · exact h2.2
      · exact absurd h2.1 h
theorem pd_WF {gt gn gz : Nat → Nat} {r n : Nat} {t e : Nat → Nat} (hw : pg_WF gt gn gz) (hr : r < 4) (hn : n ≤ 12) (ht : ∀ k, k < n → pg_tv (t k)) (h : ∀ k, k < n → pd_bd n k (e k) ∧ e k = pd_ms n t e k) (h0 : n ≠ 0 → e 0 = n) : pg_WF (pd_g gt r t) (pd_g gn r (fun k => 12 * r + e k)) (pu_set gz r n) := by
  refine ⟨fun r' hr' => ?_, fun s hs => ?_⟩
  · by_cases e : r' = r
    · rw [e, pu_s]; exact hn
    · rw [pu_n e]; exact hw.1 r' hr'
  rcases pd_lv.mp hs with ⟨hne, hlv⟩ | ⟨heq, h48, hk⟩
  · obtain ⟨w1, w2, w3, w4, w5, w6⟩ := hw.2 s hlv
    have hs48 := hlv.1
    have hz := hw.1 (s / 12) (by omega)
    have eg : pd_g gt r t s = gt s := pd_g_0 hne
    have en : pd_g gn r (fun k => 12 * r + e k) s = gn s := pd_g_0 hne
    unfold pg_W1
    rw [eg, en, pu_n hne]
    refine ⟨w1, w2, w3, fun a b => ?_, fun a => ?_, fun a => ?_⟩
    · have := w3 (by omega) b
      rw [pd_g_0 (by omega)]; exact w4 a b
    · have h3 := w3 (by omega) (by omega)
      have h5 := w5 a
      have hl := (pg_lv_1 hw hlv (by omega) (by omega)).1
      have hg := (hw.2 _ hl).1
      rw [pd_g_0 (s := s + 1) (by omega), pd_g_0 (by omega)]
      exact h5
    · have h6 := w6 a
      rw [pd_g_0 (s := s + 1) (by omega), pd_g_0 (s := s + 2) (by omega)]
      exact h6
  · obtain ⟨k, rfl, hk12⟩ : ∃ k, s = 12 * r + k ∧ k < 12 := ⟨s % 12, by omega, by omega⟩
    have ek : (12 * r + k) % 12 = k := by omega
    rw [ek] at hk
    have hcov := pd_cover h n 0 (by omega) (by omega) (by rw [h0 (by omega)]; omega)
    have hne : ∀ q, q < n → e q ≠ 0 := fun q hq => hcov q (by omega) (by rw [h0 (by omega)]; exact hq)
    have hb := (h k hk).1
    have he := (h k hk).2
    have hek := hne k hk
    unfold pd_bd at hb
    unfold pd_ms at he
    unfold pg_W1
    have ed : (12 * r + k) / 12 = r := by omega
    rw [ed, pu_s, pd_g_1 hk12, pd_g_1 hk12]
    have hap : pd_ap n e (k + 1) ≠ 0 → k + 1 < n ∧ pd_ap n e (k + 1) = e (k + 1) := by
      intro h1
      by_cases c : 0 < k + 1 ∧ k + 1 < n
      · exact ⟨c.2, pd_ap_1 c.1 c.2⟩
      · exact absurd (pd_ap_0 c) h1
    have hu : 12 ≤ t k → t k ≤ 16 → k + 1 < n ∧ e k = e (k + 1) := by
      intro a b
      rw [if_neg (by omega), if_neg (by omega), if_pos ⟨a, b⟩] at he
      have h1 := hap (by omega)
      exact ⟨h1.1, he.trans h1.2⟩
    have hbn : t k = 10 ∨ t k = 11 → k + 1 < n ∧ e (k + 1) < n ∧ e k = e (e (k + 1)) := by
      intro a
      rw [if_neg (by omega), if_pos a] at he
      by_cases z : pd_ap n e (k + 1) = 0
      · rw [z, pd_ap_0 (by omega)] at he; omega
      · have h1 := hap z
        rw [h1.2] at he
        by_cases c : 0 < e (k + 1) ∧ e (k + 1) < n
        · rw [pd_ap_1 c.1 c.2] at he; exact ⟨h1.1, c.2, he⟩
        · rw [pd_ap_0 c] at he; omega
    refine ⟨by omega, ht k hk, fun a b => ?_, fun a b => ?_, fun a => ?_, fun a => ?_⟩
    · by_cases c : t k = 10 ∨ t k = 11
      · have := hbn c; omega
      · have := hu (by omega) b; omega
    · have h1 := hu a b
      rw [Nat.add_assoc, pd_g_1 (by omega)]
      show 12 * r + e k = 12 * r + e (k + 1)
      omega
    · have h1 := hbn a
      rw [Nat.add_assoc, pd_g_1 (by omega)]
      show 12 * r + e (k + 1) < 12 * r + n ∧ 12 * r + e k = pd_g gn r (fun k => 12 * r + e k) (12 * r + e (k + 1))
      rw [pd_g_1 (by omega)]
      show 12 * r + e (k + 1) < 12 * r + n ∧ 12 * r + e k = 12 * r + e (e (k + 1))
      omega
    · rw [if_pos a] at he
      by_cases c : k + 2 < n ∧ (97 ≤ t (k + 1) ∧ t (k + 1) ≤ 122) ∧ (97 ≤ t (k + 2) ∧ t (k + 2) ≤ 122)
      · rw [Nat.add_assoc, Nat.add_assoc, pd_g_1 (by omega), pd_g_1 (by omega)]
        omega
      · rw [if_neg c] at he; omega
end
section
def pd_cx (v : Nat) : Int32 := if v = 0 then -1 else nI v
theorem cx_0 : pd_cx 0 = -1 := rfl
theorem cx_1 {v : Nat} (h : v ≠ 0) : pd_cx v = nI v := if_neg h
section
variable {ln nc sc : Int32} {pd pa tk af rs tx oc nr ns ne nd ss sp sd : Nat → Int32} {n k : Nat} {t e : Nat → Nat} {x : Int32}
theorem px_aP {post : Int32 → Prop} (w : Nat) (hx : x = pd_cx w) (hn : n ≤ 12) (hw : w < 100) (hp : 0 < w → w < n → pa w = pd_cx (e w)) (h : post (pd_cx (pd_ap n e w))) : wpX_afterPart post (nI n, ln, nc, sc, pd, pa, tk, af, rs, tx, oc, nr, ns, ne, nd, ss, sp, sd) x := by
  subst hx
  by_cases w0 : w = 0
  · subst w0
    rw [pd_ap_0 (by omega)] at h
    exact br_t (by decide) h
  · rw [cx_1 w0]
    refine br_f (nI_pos (by omega)) (pk_le n w (fun h1 => ?_) (fun h1 => ?_))
    · rw [pd_ap_0 (by omega)] at h; exact h
    · rw [pd_ap_1 (by omega) h1, ← hp (by omega) h1] at h
      rw [nI_clamp (by omega)]
      exact ⟨vp_in_nI (by omega) (by decide), h⟩
theorem px_let {post : Int32 → Prop} {t : Nat} (ht : t < 2 ^ 31) (h1 : 97 ≤ t ∧ t ≤ 122 → post 1) (h0 : ¬ (97 ≤ t ∧ t ≤ 122) → post 0) : wpX_isLetter post (nI t) :=
  pk_lt t 97 (fun a => h0 (by omega)) (fun a => pk_lt 122 t (fun b => h0 (by omega)) (fun b => h1 (by omega)))
theorem px_ms {post : Int32 → Prop} (hn : n ≤ 12) (hk : k < n) (ht : ∀ i, i < n → pd i = nI (t i) ∧ pg_tv (t i)) (hb : ∀ i, k < i → i < n → pd_bd n i (e i)) (hp : ∀ i, k < i → i < n → pa i = pd_cx (e i)) (h : post (pd_cx (pd_ms n t e k))) : wpX_measure post (nI n, ln, nc, sc, pd, pa, tk, af, rs, tx, oc, nr, ns, ne, nd, ss, sp, sd) (nI k) := by
  have tv : ∀ i, i < n → t i < 2 ^ 31 := fun i hi => by have := (ht i hi).2; unfold pg_tv at this; omega
  have tk0 := tv k hk
  have tvk := (ht k hk).2
  unfold pg_tv at tvk
  have h1 : pd_bd n (k + 1) (pd_ap n e (k + 1)) := pd_ap_bd fun h2 => hb _ (by omega) h2
  refine ⟨vp_in_nI (by omega) (by decide), nm_r (e' := nI (t k)) (by rw [nI_clamp (by omega)]; exact (ht k hk).1) ?_⟩
  have e2 : nI k + 2 = nI (k + 2) := by rw [show (2 : Int32) = nI 2 from rfl, nI_add]
  have e3 : nI k + 3 = nI (k + 3) := by rw [show (3 : Int32) = nI 3 from rfl, nI_add]
  have ec : nI k + 1 = pd_cx (k + 1) := by rw [nI_1, cx_1 (by omega)]
  unfold pd_ms at h
  refine pk_eq (t k) 3 (fun a => ?_) (fun a => ?_)
  · rw [if_pos a] at h
    have hX0 : ¬ (k + 2 < n ∧ (97 ≤ t (k + 1) ∧ t (k + 1) ≤ 122) ∧ (97 ≤ t (k + 2) ∧ t (k + 2) ≤ 122)) → post (-1) := fun c => by rw [if_neg c] at h; exact h
    have hX1 : (k + 2 < n ∧ (97 ≤ t (k + 1) ∧ t (k + 1) ≤ 122) ∧ (97 ≤ t (k + 2) ∧ t (k + 2) ≤ 122)) → post (nI k + 3) := fun c => by rw [if_pos c, cx_1 (by omega)] at h; rw [e3]; exact h
    refine pk_le n (k + 2) (fun c => br_t rfl (hX0 (by omega))) (fun c => ?_) rfl e2
    rw [nI_1, e2, nI_clamp (by omega), nI_clamp (by omega), (ht (k + 1) (by omega)).1, (ht (k + 2) c).1]
    refine ⟨vp_in_nI (by omega) (by decide), px_let (tv _ (by omega)) (fun c1 => br_f (by decide) ⟨vp_in_nI (by omega) (by decide), px_let (tv _ c) (fun c2 => br_f (by decide) (br_f (by decide) (hX1 ⟨c, c1, c2⟩))) (fun c2 => br_t rfl (br_t rfl (hX0 (fun c3 => c2 c3.2.2))))⟩) (fun c1 => br_t rfl (br_t rfl (hX0 (fun c3 => c1 c3.2.1))))⟩
  rw [if_neg a] at h
  have k40 : (t k = 10 ∨ t k = 11) → wX_measure_40 post (nI k) (nI n) ln nc sc pd pa tk af rs tx oc nr ns ne nd ss sp sd := by
    intro c
    rw [if_pos c] at h
    unfold wX_measure_40
    refine px_aP (k + 1) ec hn (by omega) (fun _ h3 => hp _ (by omega) h3) ?_
    refine px_aP (pd_ap n e (k + 1)) rfl hn (by unfold pd_bd at h1; omega) (fun h3 h4 => hp _ (by unfold pd_bd at h1; omega) h4) h
  refine pk_eq (t k) 10 (fun b => k40 (Or.inl b)) (fun b => pk_eq (t k) 11 (fun c => k40 (Or.inr c)) (fun c => ?_))
  rw [if_neg (by omega)] at h
  have k1 : ¬ (12 ≤ t k ∧ t k ≤ 16) → post (nI k + 1) := fun c => by rw [if_neg c, cx_1 (by omega)] at h; rw [nI_1]; exact h
  refine pk_lt (t k) 12 (fun d => k1 (by omega)) (fun d => pk_lt 16 (t k) (fun f => k1 (by omega)) (fun f => ?_))
  rw [if_pos ⟨d, f⟩] at h
  exact px_aP (k + 1) ec hn (by omega) (fun _ h3 => hp _ (by omega) h3) h
end
section
variable {ln nc sc : Int32} {pd tk af rs tx oc nr ns ne nd ss sp sd : Nat → Int32} {n : Nat} {t : Nat → Nat}
theorem px_7 (hn : n ≤ 12) (hn0 : 0 < n) (ht : ∀ i, i < n → pd i = nI (t i) ∧ pg_tv (t i)) : ∀ c, c ≤ n → ∀ pa : Nat → Int32, (∀ i, c ≤ i → i < n → pa i = pd_cx (pd_E n t (n - c) i)) → ∃ pa' : Nat → Int32, (∀ i, i < n → pa' i = pd_cx (pd_E n t n i)) ∧ ∀ (post : Int32 → SX → Prop) (m : Nat), c < m → (pd_E n t n 0 = n → post 1 (nI n, ln, nc, sc, pd, pa', tk, af, rs, tx, oc, nr, ns, ne, nd, ss, sp, sd)) → (pd_E n t n 0 ≠ n → post 0 (nI n, ln, nc, sc, pd, pa', tk, af, rs, tx, oc, nr, ns, ne, nd, ss, sp, sd)) → wX_pendingIsOneExpression_7 post (nI n) ln nc sc m (nI c - 1) pd pa tk af rs tx oc nr ns ne nd ss sp sd := by
  intro c
  induction c with
  | zero =>
    intro _ pa hp
    refine ⟨pa, fun i hi => hp i (by omega) hi, fun post m hm h1 h0 => ?_⟩
    obtain ⟨m, rfl⟩ : ∃ m', m = m' + 1 := ⟨m - 1, by omega⟩
    have e0 := hp 0 (by omega) hn0
    rw [Nat.sub_zero] at e0
    have hb := (pd_E_ok (t := t) n (Nat.le_refl n) 0 (by omega) hn0).1
    refine br_t (by decide) ?_
    rw [e0]
    by_cases z : pd_E n t n 0 = 0
    · rw [z, cx_0]
      refine br_f (fun e => ?_) (h0 (by omega))
      have h2 : (-1 : Int32) < 0 := by decide
      rw [e] at h2
      exact nI_pos (by omega) h2
    · rw [cx_1 z]
      unfold pd_bd at hb
      exact pk_eq (pd_E n t n 0) n (fun e => h1 e) (fun e => h0 e)
  | succ c ih =>
    intro hc pa hp
    have hok := pd_E_ok (n := n) (t := t) (n - (c + 1)) (by omega)
    have ec : n - 1 - (n - (c + 1)) = c := by omega
    have en : n - c = n - (c + 1) + 1 := by omega
    obtain ⟨pa', h1, h2⟩ := ih (by omega) (upd pa c (pd_cx (pd_ms n t (pd_E n t (n - (c + 1))) c))) (fun i hi1 hi2 => by
      rw [en]
      by_cases e : i = c
      · subst e
        rw [pk_us]
        have := pd_E_s (n := n) (t := t) (j := n - (i + 1))
        rw [ec] at this
        rw [this]
      · rw [pk_un e, pd_E_n (by omega)]
        exact hp i (by omega) hi2)
    refine ⟨pa', h1, fun post m hm hh1 hh0 => ?_⟩
    obtain ⟨m, rfl⟩ : ∃ m', m = m' + 1 := ⟨m - 1, by omega⟩
    rw [nI_pred]
    refine br_f (nI_pos (by omega)) (px_ms hn (by omega) ht (fun i a b => (hok i (by omega) b).1) (fun i a b => hp i (by omega) b) ?_)
    rw [nI_clamp (by omega)]
    exact ⟨vp_in_nI (by omega) (by decide), nm_e (nm_r (pq_pm c) (h2 post m (by omega) hh1 hh0))⟩
end
section
variable {ln nc sc : Int32} {pd pa rs tx oc nr ns ne nd ss sp sd : Nat → Int32} {n r : Nat} {t e : Nat → Nat}
theorem px_tP7 (hn : n ≤ 12) (hr : r < 4) (ht : ∀ i, i < n → pd i = nI (t i)) (hp : ∀ i, i < n → pa i = nI (e i)) (tk0 af0 : Nat → Int32) : ∀ d k, k + d = n → ∀ tk af : Nat → Int32, (∀ i, i < k → tk (12 * r + i) = nI (t i) ∧ af (12 * r + i) = nI (12 * r + e i)) → (∀ s, s / 12 ≠ r → tk s = tk0 s ∧ af s = af0 s) → ∃ tk' af' : Nat → Int32, (∀ i, i < n → tk' (12 * r + i) = nI (t i) ∧ af' (12 * r + i) = nI (12 * r + e i)) ∧ (∀ s, s / 12 ≠ r → tk' s = tk0 s ∧ af' s = af0 s) ∧ ∀ (post : SX → Prop) (m : Nat), d < m → post (nI n, ln, nc, sc, pd, pa, tk', af', upd rs r (nI n), tx, oc, nr, ns, ne, nd, ss, sp, sd) → wX_takePending_7 post (nI r) (nI (12 * r)) (nI n) ln nc sc m (nI k) pd pa tk af rs tx oc nr ns ne nd ss sp sd := by
  intro d
  induction d with
  | zero =>
    intro k hk tk af h1 h2
    refine ⟨tk, af, fun i hi => h1 i (by omega), h2, fun post m hm h => ?_⟩
    obtain ⟨m, rfl⟩ : ∃ m', m = m' + 1 := ⟨m - 1, by omega⟩
    refine br_t (nI_le (by omega) (by omega)) ⟨vp_in_nI hr (by decide), ?_⟩
    rw [nI_clamp (by omega)]
    exact nm_e h
  | succ d ih =>
    intro k hk tk af h1 h2
    obtain ⟨tk', af', a1, a2, a3⟩ := ih (k + 1) (by omega) (upd tk (12 * r + k) (nI (t k))) (upd af (12 * r + k) (nI (12 * r + e k))) (fun i hi => by
      by_cases e : i = k
      · subst e; rw [pk_us, pk_us]; exact ⟨rfl, rfl⟩
      · rw [pk_un (by omega), pk_un (by omega)]; exact h1 i (by omega)) (fun s hs => by
      rw [pk_un (by omega), pk_un (by omega)]; exact h2 s hs)
    refine ⟨tk', af', a1, a2, fun post m hm h => ?_⟩
    obtain ⟨m, rfl⟩ : ∃ m', m = m' + 1 := ⟨m - 1, by omega⟩
    refine br_f (nI_ge (by omega) (by omega)) ?_
    rw [nI_add, nI_clamp (by omega), nI_clamp (by omega), ht k (by omega), hp k (by omega), nI_add]
    exact ⟨vp_in_nI (by omega) (by decide), vp_in_nI (by omega) (by decide), nm_e ⟨vp_in_nI (by omega) (by decide), vp_in_nI (by omega) (by decide), nm_e (nm_r (nI_1 k) (a3 post m (by omega) h))⟩⟩
end
end
section
def pd_cy (b v : Nat) : Int32 := if v = 0 then 0 else nI (b + v)
theorem cy_0 {b : Nat} : pd_cy b 0 = 0 := rfl
theorem cy_1 {b v : Nat} (h : v ≠ 0) : pd_cy b v = nI (b + v) := if_neg h
theorem pq_dn {b : Nat} (h : b < 2 ^ 31) : nI b - 1 < nI b := by
  cases b with
  | zero => decide
  | succ b => rw [nI_pred]; exact nI_lt (by omega) h
section
variable {yl yt yk : Int32} {tok len nxt tx dos ag tc tp td kp : Nat → Int32} {b n k : Nat} {t e : Nat → Nat}
theorem py_let {post : Int32 → Prop} {t : Nat} (ht : t < 2 ^ 31) (h1 : 97 ≤ t ∧ t ≤ 122 → post 1) (h0 : ¬ (97 ≤ t ∧ t ≤ 122) → post 0) : wpY_isLetter post (nI t) :=
  pk_lt t 97 (fun a => h0 (by omega)) (fun a => pk_lt 122 t (fun b => h0 (by omega)) (fun b => h1 (by omega)))
theorem py_79 {post : SY → Prop} {J : Int32 → (Nat → Int32) → (Nat → Int32) → (Nat → Int32) → (Nat → Int32) → (Nat → Int32) → (Nat → Int32) → (Nat → Int32) → (Nat → Int32) → (Nat → Int32) → (Nat → Int32) → Prop} (hb : b ≤ 48) (hn : n ≤ 12) (hk : k < n) (ht : ∀ i, i < n → tok (b + i) = nI (t i) ∧ pg_tv (t i)) (h : J (nI (b + k) - 1) tok len (upd nxt (b + k) (pd_cy b (pd_ms n t e k))) tx dos ag tc tp td kp) : wY_survey_79 post J (nI b) (nI (b + n)) (nI (b + k)) (nI (t k)) (pd_cy b (pd_ap n e (k + 1))) (pd_cy b (pd_ap n e (pd_ap n e (k + 1)))) yl yt yk tok len nxt tx dos ag tc tp td kp := by
  have tv : ∀ i, i < n → t i < 2 ^ 31 := fun i hi => by have := (ht i hi).2; unfold pg_tv at this; omega
  have tk0 := tv k hk
  have tvk := (ht k hk).2
  unfold pg_tv at tvk
  have e2 : nI (b + k) + 2 = nI (b + (k + 2)) := by rw [show (2 : Int32) = nI 2 from rfl, nI_add, Nat.add_assoc]
  have e3 : nI (b + k) + 3 = nI (b + (k + 3)) := by rw [show (3 : Int32) = nI 3 from rfl, nI_add, Nat.add_assoc]
  have e1 : nI (b + k) + 1 = nI (b + (k + 1)) := nI_1 (b + k)
  have hv : vp_in (nI (b + k)) 60 := vp_in_nI (by omega) (by decide)
  have ecl : (nI (b + k)).toNatClampNeg = b + k := nI_clamp (by omega)
  have fin : ∀ w : Int32, w = pd_cy b (pd_ms n t e k) → vp_in (nI (b + k)) 60 ∧ ∀ a, a = upd nxt (nI (b + k)).toNatClampNeg w → ∀ y : Int32, y = nI (b + k) + (-1) → J y tok len a tx dos ag tc tp td kp := by
    intro w hw
    rw [ecl, hw]
    exact ⟨hv, nm_e (nm_r (pq_pm (b + k)) h)⟩
  unfold pd_ms at fin
  refine pk_eq (t k) 3 (fun a => ?_) (fun a => ?_)
  · rw [if_pos a] at fin
    have hX0 : ¬ (k + 2 < n ∧ (97 ≤ t (k + 1) ∧ t (k + 1) ≤ 122) ∧ (97 ≤ t (k + 2) ∧ t (k + 2) ≤ 122)) → _ := fun c => fin 0 (by rw [if_neg c, cy_0])
    have hX1 : (k + 2 < n ∧ (97 ≤ t (k + 1) ∧ t (k + 1) ≤ 122) ∧ (97 ≤ t (k + 2) ∧ t (k + 2) ≤ 122)) → _ := fun c => fin (nI (b + k) + 3) (by rw [if_pos c, cy_1 (by omega), e3])
    refine pk_le (b + n) (b + (k + 2)) (fun c => hX0 (by omega)) (fun c => ?_) rfl e2
    rw [e1, e2]
    rw [nI_clamp (n := b + (k + 1)) (by omega), nI_clamp (n := b + (k + 2)) (by omega), (ht (k + 1) (by omega)).1, (ht (k + 2) (by omega)).1]
    refine ⟨vp_in_nI (by omega) (by decide), py_let (tv _ (by omega)) (fun c1 => br_f (by decide) ⟨vp_in_nI (by omega) (by decide), py_let (tv _ (by omega)) (fun c2 => br_f (by decide) (hX1 ⟨by omega, c1, c2⟩)) (fun c2 => br_t rfl (hX0 (fun c3 => c2 c3.2.2)))⟩) (fun c1 => br_t rfl (hX0 (fun c3 => c1 c3.2.1)))⟩
  rw [if_neg a] at fin
  have k157 : ¬ (10 ≤ t k ∧ t k ≤ 16) → wY_survey_157 post J (nI b) (nI (b + n)) (nI (b + k)) yl yt yk tok len nxt tx dos ag tc tp td kp := fun c => fin (nI (b + k) + 1) (by rw [if_neg (by omega), if_neg (by omega), cy_1 (by omega), e1])
  refine pk_lt (t k) 10 (fun c => k157 (by omega)) (fun c => pk_lt (t k) 20 (fun d => pk_le 12 (t k) (fun f => ?_) (fun f => ?_)) (fun d => k157 (by omega)))
  · exact fin _ (by rw [if_neg (by omega), if_pos (by omega)])
  · exact fin _ (by rw [if_pos (by omega)])
theorem py_55 {post : SY → Prop} {J : Int32 → (Nat → Int32) → (Nat → Int32) → (Nat → Int32) → (Nat → Int32) → (Nat → Int32) → (Nat → Int32) → (Nat → Int32) → (Nat → Int32) → (Nat → Int32) → (Nat → Int32) → Prop} (hb : b ≤ 48) (hn : n ≤ 12) (hk : k < n) (ht : ∀ i, i < n → tok (b + i) = nI (t i) ∧ pg_tv (t i)) (hbd : ∀ i, k < i → i < n → pd_bd n i (e i)) (hx : ∀ i, k < i → i < n → nxt (b + i) = pd_cy b (e i)) (h : J (nI (b + k) - 1) tok len (upd nxt (b + k) (pd_cy b (pd_ms n t e k))) tx dos ag tc tp td kp) : wY_survey_55 post J (nI b) (nI (b + n)) (nI (b + k)) (nI (t k)) (pd_cy b (pd_ap n e (k + 1))) yl yt yk tok len nxt tx dos ag tc tp td kp := by
  have h79 := py_79 (yl := yl) (yt := yt) (yk := yk) (post := post) (e := e) hb hn hk ht h
  have h1 : pd_bd n (k + 1) (pd_ap n e (k + 1)) := pd_ap_bd fun h2 => hbd _ (by omega) h2
  by_cases w0 : pd_ap n e (k + 1) = 0
  · rw [w0, pd_ap_0 (by omega)] at h79
    rw [w0]
    exact br_t (show (0 : Int32) ≤ 0 from by decide) h79
  · have h2 : k + 1 < pd_ap n e (k + 1) ∧ pd_ap n e (k + 1) ≤ n := by unfold pd_bd at h1; omega
    have ecy := cy_1 (b := b) w0
    refine br_f (by rw [ecy]; exact nI_nle (by omega) (by omega)) (pk_le (b + n) (b + pd_ap n e (k + 1)) (fun c => ?_) (fun c => ?_) rfl ecy)
    · rw [pd_ap_0 (j := pd_ap n e (k + 1)) (by omega)] at h79
      exact h79
    · rw [pd_ap_1 (j := pd_ap n e (k + 1)) (by omega) (by omega), ← hx _ (by omega) (by omega)] at h79
      refine ⟨by rw [ecy]; exact vp_in_nI (by omega) (by decide), ?_⟩
      rw [show nxt (pd_cy b (pd_ap n e (k + 1))).toNatClampNeg = nxt (b + pd_ap n e (k + 1)) from by rw [ecy, nI_clamp (by omega)]]
      exact h79
end
section
variable {yl yt yk : Int32} {tok len tx dos ag tc tp td kp : Nat → Int32} {b n : Nat} {t : Nat → Nat}
theorem py_19 (hb : b ≤ 48) (hn : n ≤ 12) (ht : ∀ i, i < n → tok (b + i) = nI (t i) ∧ pg_tv (t i)) (nxt0 : Nat → Int32) : ∀ c, c ≤ n → ∀ nxt : Nat → Int32, (∀ i, c ≤ i → i < n → nxt (b + i) = pd_cy b (pd_E n t (n - c) i)) → (∀ s, s < b ∨ b + n ≤ s → nxt s = nxt0 s) → ∃ nxt' : Nat → Int32, (∀ i, i < n → nxt' (b + i) = pd_cy b (pd_E n t n i)) ∧ (∀ s, s < b ∨ b + n ≤ s → nxt' s = nxt0 s) ∧ ∀ (post : SY → Prop) (m : Nat), c < m → post (yl, yt, yk, tok, len, nxt', tx, dos, ag, tc, tp, td, kp) → wY_survey_19 post (nI b) (nI (b + n)) yl yt yk m (nI (b + c) - 1) tok len nxt tx dos ag tc tp td kp := by
  intro c
  induction c with
  | zero =>
    intro _ nxt hx hy
    refine ⟨nxt, fun i hi => hx i (by omega) hi, hy, fun post m hm h => ?_⟩
    obtain ⟨m, rfl⟩ : ∃ m', m = m' + 1 := ⟨m - 1, by omega⟩
    exact br_t (pq_dn (by omega)) h
  | succ c ih =>
    intro hc nxt hx hy
    have hok := pd_E_ok (n := n) (t := t) (n - (c + 1)) (by omega)
    have ec : n - 1 - (n - (c + 1)) = c := by omega
    have en : n - c = n - (c + 1) + 1 := by omega
    obtain ⟨nxt', h1, h2, h3⟩ := ih (by omega) (upd nxt (b + c) (pd_cy b (pd_ms n t (pd_E n t (n - (c + 1))) c))) (fun i hi1 hi2 => by
      rw [en]
      by_cases e : i = c
      · subst e
        rw [pk_us]
        have := pd_E_s (n := n) (t := t) (j := n - (i + 1))
        rw [ec] at this
        rw [this]
      · rw [pk_un (by omega), pd_E_n (by omega)]
        exact hx i (by omega) hi2) (fun s hs => by rw [pk_un (by omega)]; exact hy s hs)
    refine ⟨nxt', h1, h2, fun post m hm h => ?_⟩
    obtain ⟨m, rfl⟩ : ∃ m', m = m' + 1 := ⟨m - 1, by omega⟩
    have h55 := py_55 (yl := yl) (yt := yt) (yk := yk) (post := post) (nxt := nxt) hb hn (k := c) (by omega) ht (fun i a b => (hok i (by omega) b).1) (fun i a b => hx i (by omega) b) (h3 post m (by omega) h)
    rw [show b + (c + 1) = b + c + 1 from rfl, nI_pred]
    refine br_f (nI_nlt (by omega) (by omega)) ⟨vp_in_nI (by omega) (by decide), nm_r (e' := nI (t c)) (by rw [nI_clamp (by omega)]; exact (ht c (by omega)).1) ?_⟩
    refine pk_le (b + n) (b + c + 1) (fun d => ?_) (fun d => ?_) rfl (nI_1 (b + c))
    · rw [pd_ap_0 (by omega)] at h55; exact h55
    · rw [pd_ap_1 (by omega) (by omega), ← hx (c + 1) (by omega) (by omega)] at h55
      rw [nI_1, nI_clamp (by omega)]
      exact ⟨vp_in_nI (by omega) (by decide), h55⟩
theorem py_sv {l : Nat} (hl : l < 5) (hn : n ≤ 12) (hlen : len l = nI n) (ht : ∀ i, i < n → tok (12 * l + i) = nI (t i) ∧ pg_tv (t i)) (nxt : Nat → Int32) : ∃ nxt' : Nat → Int32, (∀ i, i < n → nxt' (12 * l + i) = pd_cy (12 * l) (pd_E n t n i)) ∧ (∀ s, s < 12 * l ∨ 12 * l + n ≤ s → nxt' s = nxt s) ∧ ∀ (post : SY → Prop), post (yl, yt, yk, tok, len, nxt', tx, dos, ag, tc, tp, td, kp) → wpY_survey post (yl, yt, yk, tok, len, nxt, tx, dos, ag, tc, tp, td, kp) (nI l) := by
  obtain ⟨nxt', h1, h2, h3⟩ := py_19 (yl := yl) (yt := yt) (yk := yk) (len := len) (tx := tx) (dos := dos) (ag := ag) (tc := tc) (tp := tp) (td := td) (kp := kp) (b := 12 * l) (by omega) hn ht nxt n (Nat.le_refl n) nxt (fun i a b => by omega) (fun _ _ => rfl)
  refine ⟨nxt', h1, h2, fun post h => ?_⟩
  refine nm_r (e' := nI (12 * l)) (by rw [show (12 : Int32) = nI 12 from rfl, pk_mul]) ⟨vp_in_nI hl (by decide), nm_r (e' := nI (12 * l + n)) (by rw [nI_clamp (by omega), hlen, nI_add]) (nm_e ⟨n + 1, h3 post (n + 1) (by omega) h⟩)⟩
theorem py_65 {r : Nat} (hr : r < 4) (nxt tok0 : Nat → Int32) {z : Int32} : ∀ d k, k + d = 12 → ∀ tok : Nat → Int32, (∀ i, i < k → tok (12 * r + i) = tok0 (48 + i)) → (∀ s, s / 12 ≠ r → tok s = tok0 s) → ∃ tok' : Nat → Int32, (∀ i, i < 12 → tok' (12 * r + i) = tok0 (48 + i)) ∧ (∀ s, s / 12 ≠ r → tok' s = tok0 s) ∧ ∀ (post : Int32 → SY → Prop) (m : Nat), d < m → (wpY_survey (fun u => match u with | (yl, yt, yk, tok, len, nxt, tx, dos, ag, tc, tp, td, kp) => ∀ len' : Nat → Int32, len' = upd len 4 0 → (narrow .boolean (.int z) = .int z ∧ post z (yl, yt, yk, tok, len', nxt, tx, dos, ag, tc, tp, td, kp))) (yl, yt, yk, tok', upd len r (len 4), nxt, tx, dos, ag, tc, tp, td, kp) (nI r)) → wY_define_65 post (nI r) z yl yt yk m (nI k) tok len nxt tx dos ag tc tp td kp := by
  intro d
  induction d with
  | zero =>
    intro k hk tok h1 h2
    refine ⟨tok, fun i hi => h1 i (by omega), h2, fun post m hm h => ?_⟩
    obtain ⟨m, rfl⟩ : ∃ m', m = m' + 1 := ⟨m - 1, by omega⟩
    refine br_t (nI_le (a := 12) (by omega) (by omega)) ⟨vp_in_nI (by omega) (by decide), ?_⟩
    rw [nI_clamp (by omega)]
    exact nm_e h
  | succ d ih =>
    intro k hk tok h1 h2
    obtain ⟨tok', a1, a2, a3⟩ := ih (k + 1) (by omega) (upd tok (12 * r + k) (tok (48 + k))) (fun i hi => by
      by_cases e : i = k
      · subst e; rw [pk_us]; exact h2 _ (by omega)
      · rw [pk_un (by omega)]; exact h1 i (by omega)) (fun s hs => by rw [pk_un (by omega)]; exact h2 s hs)
    refine ⟨tok', a1, a2, fun post m hm h => ?_⟩
    obtain ⟨m, rfl⟩ : ∃ m', m = m' + 1 := ⟨m - 1, by omega⟩
    refine br_f (nI_ge (b := 12) (by omega) (by omega)) ?_
    rw [show (48 : Int32) + nI k = nI (48 + k) from by rw [show (48 : Int32) = nI 48 from rfl, nI_add], show (12 : Int32) * nI r + nI k = nI (12 * r + k) from by rw [show (12 : Int32) = nI 12 from rfl, pk_mul, nI_add], nI_clamp (by omega), nI_clamp (by omega)]
    exact ⟨vp_in_nI (by omega) (by decide), vp_in_nI (by omega) (by decide), nm_e (nm_r (nI_1 k) (a3 post m (by omega) h))⟩
end
end
section
theorem i_vc_define {k : Nat} {u : SX} {v : SY} (I : i_Rel k u v) (hk : k + 5 ≤ 2560) (v1 : Int32) : wpX_define (fun r u' => wpY_define (fun r' v' => r' = r ∧ i_Rel (k + 5) u' v') v v1) u v1 := by
  obtain ⟨_, q, L, n, gt, gn, gz, sc, yt, pd, pa, tk, af, rs, tx, oc, nr, ns, ne, nd, ss, sp, sd, tok, len, nxt, dos, ag, tc, tp, td, kp, rfl, rfl, hI⟩ := I
  obtain ⟨hq, hL, h3, hw, hGX, hGY, hX, h8, h9⟩ := hI
  obtain ⟨t, ht⟩ : ∃ t : Nat → Nat, ∀ i, i < q → pd i = nI (t i) ∧ tok (48 + i) = nI (t i) ∧ pg_tv (t i) := by
    refine ⟨fun i => (pd i).toNatClampNeg, fun i hi => ?_⟩
    obtain ⟨t, h1, h2, h4⟩ := h9.2 i hi
    have e : (pd i).toNatClampNeg = t := by rw [h2, nI_clamp (by unfold pg_tv at h1; omega)]
    show pd i = nI (pd i).toNatClampNeg ∧ tok (48 + i) = nI (pd i).toNatClampNeg ∧ pg_tv (pd i).toNatClampNeg
    rw [e]; exact ⟨h2, h4, h1⟩
  have hok : ∀ k, k < q → pd_bd q k (pd_E q t q k) ∧ pd_E q t q k = pd_ms q t (pd_E q t q) k := fun k hk => pd_E_ok q (Nat.le_refl q) k (by omega) hk
  obtain ⟨nxt1, s1, s2, s3⟩ := py_sv (yl := nI L) (yt := yt) (yk := nI n) (tok := tok) (len := len) (tx := tx) (dos := dos) (ag := ag) (tc := tc) (tp := tp) (td := td) (kp := kp) (l := 4) (by omega) hq h9.1 (fun i hi => (ht i hi).2) nxt
  have hYw : ∀ post : Int32 → SY → Prop, ((q = 0 ∨ pd_E q t q 0 = q) → wY_define_38 post v1 1 (nI L) yt (nI n) tok len nxt1 tx dos ag tc tp td kp) → (¬ (q = 0 ∨ pd_E q t q 0 = q) → wY_define_38 post v1 0 (nI L) yt (nI n) tok len nxt1 tx dos ag tc tp td kp) → wpY_define post (nI L, yt, nI n, tok, len, nxt, tx, dos, ag, tc, tp, td, kp) v1 := by
    intro post w1 w0
    unfold wpY_define
    refine s3 _ ?_
    show (len 4 = 0 → _) ∧ (¬ len 4 = 0 → _)
    rw [h9.1]
    refine pk_eq q 0 (fun a => w1 (Or.inl a)) (fun a => ?_)
    have e48 := s1 0 (by omega)
    show (nxt1 48 = 48 + nI q → _) ∧ (¬ nxt1 48 = 48 + nI q → _)
    rw [show nxt1 48 = pd_cy 48 (pd_E q t q 0) from e48, show (48 : Int32) + nI q = nI (48 + q) from by rw [show (48 : Int32) = nI 48 from rfl, nI_add]]
    have hb := (hok 0 (by omega)).1
    unfold pd_bd at hb
    by_cases z : pd_E q t q 0 = 0
    · rw [z, cy_0]
      exact br_f (fun e => nI_ne0 (by omega) (by omega) e.symm) (w0 (by omega))
    · rw [cy_1 z]
      exact pk_eq (48 + pd_E q t q 0) (48 + q) (fun e => w1 (Or.inr (by omega))) (fun e => w0 (by omega))
  have hI0 : ∀ pa' : Nat → Int32, i_Rel (k + 5) (nI 0, nI L, nI n, sc, pd, pa', tk, af, rs, tx, oc, nr, ns, ne, nd, ss, sp, sd) (nI L, yt, nI n, tok, upd len 4 0, nxt1, tx, dos, ag, tc, tp, td, kp) := by
    intro pa'
    refine pi_mk (q := 0) ⟨by omega, hL, h3, hw, hGX, ⟨fun s hs => ?_, fun r hr => ?_⟩, hX, h8, ⟨pk_us, fun k hk => absurd hk (by omega)⟩⟩
    · have hs1 := hs.1
      rw [s2 s (by omega)]; exact hGY.1 s hs
    · rw [pk_un (by omega)]; exact hGY.2 r hr
  have hY56 : ∀ post : Int32 → SY → Prop, post 0 (nI L, yt, nI n, tok, upd len 4 0, nxt1, tx, dos, ag, tc, tp, td, kp) → wY_define_57 post v1 0 (nI L) yt (nI n) tok len nxt1 tx dos ag tc tp td kp := by
    intro post h
    exact br_t rfl (nm_e ⟨pq_nb (x := 0) (by omega), h⟩)
  have hX25 : ∀ (post : Int32 → SX → Prop) (pa' : Nat → Int32), post 0 (nI 0, nI L, nI n, sc, pd, pa', tk, af, rs, tx, oc, nr, ns, ne, nd, ss, sp, sd) → wX_define_26 post v1 0 (nI q) (nI L) (nI n) sc pd pa' tk af rs tx oc nr ns ne nd ss sp sd := by
    intro post pa' h
    exact br_t rfl ⟨pq_nb (x := 0) (by omega), h⟩
  unfold wpX_define
  rcases pi_ix v1 (n := 4) (by omega) with h | ⟨r, hr, rfl⟩
  · refine px_iRf h (br_t rfl (hX25 _ _ ?_))
    have h56 : ∀ (post : Int32 → SY → Prop) (z : Int32), wY_define_57 post v1 0 (nI L) yt (nI n) tok len nxt1 tx dos ag tc tp td kp → wY_define_38 post v1 z (nI L) yt (nI n) tok len nxt1 tx dos ag tc tp td kp := by
      intro post z h5
      exact br_c (fun _ => h5) (fun g => br_t (pi_3 g h) h5)
    exact hYw _ (fun _ => h56 _ _ (hY56 _ ⟨rfl, hI0 _⟩)) (fun _ => h56 _ _ (hY56 _ ⟨rfl, hI0 _⟩))
  refine px_iRt hr (br_f (by decide) ?_)
  have hY38 : ∀ (post : Int32 → SY → Prop), wY_define_57 post (nI r) 1 (nI L) yt (nI n) tok len nxt1 tx dos ag tc tp td kp → wY_define_38 post (nI r) 1 (nI L) yt (nI n) tok len nxt1 tx dos ag tc tp td kp := fun post h =>
    br_f (nI_pos (by omega)) (br_f (nI_nlt (a := 3) (by omega) (by omega)) (br_f (by decide) h))
  have acc : ∀ pa' : Nat → Int32, (q = 0 ∨ pd_E q t q 0 = q) → (∀ i, i < q → pa' i = pd_cx (pd_E q t q i)) → wX_define_26 (fun r' u' => wpY_define (fun r'' v' => r'' = r' ∧ i_Rel (k + 5) u' v') (nI L, yt, nI n, tok, len, nxt, tx, dos, ag, tc, tp, td, kp) (nI r)) (nI r) 1 (nI q) (nI L) (nI n) sc pd pa' tk af rs tx oc nr ns ne nd ss sp sd := by
    intro pa' hwh hpa
    have h0 : q ≠ 0 → pd_E q t q 0 = q := by
      intro a
      rcases hwh with b | b
      · exact absurd b a
      · exact b
    have hne : ∀ i, i < q → pd_E q t q i ≠ 0 := fun i hi => pd_cover hok q 0 (by omega) (by omega) (by rw [h0 (by omega)]; omega) i (by omega) (by rw [h0 (by omega)]; exact hi)
    obtain ⟨tk', af', b1, b2, b3⟩ := px_tP7 (ln := nI L) (nc := nI n) (sc := sc) (pd := pd) (pa := pa') (rs := rs) (tx := tx) (oc := oc) (nr := nr) (ns := ns) (ne := ne) (nd := nd) (ss := ss) (sp := sp) (sd := sd) (t := t) (e := pd_E q t q) hq hr (fun i hi => (ht i hi).1) (fun i hi => by rw [hpa i hi, cx_1 (hne i hi)]) tk af q 0 (by omega) tk af (fun i hi => absurd hi (by omega)) (fun _ _ => ⟨rfl, rfl⟩)
    obtain ⟨tok', c1, c2, c3⟩ := py_65 (yl := nI L) (yt := yt) (yk := nI n) (len := len) (tx := tx) (dos := dos) (ag := ag) (tc := tc) (tp := tp) (td := td) (kp := kp) hr nxt1 tok (z := 1) 12 0 (by omega) tok (fun i hi => absurd hi (by omega)) (fun _ _ => rfl)
    obtain ⟨nxt2, d1, d2, d3⟩ := py_sv (yl := nI L) (yt := yt) (yk := nI n) (tok := tok') (len := upd len r (len 4)) (tx := tx) (dos := dos) (ag := ag) (tc := tc) (tp := tp) (td := td) (kp := kp) (t := t) (l := r) (by omega) hq (by rw [pk_us]; exact h9.1) (fun i hi => by rw [c1 i (by omega)]; exact (ht i hi).2) nxt1
    refine br_f (by decide) (nm_r (e' := nI (12 * r)) (by rw [show (12 : Int32) = nI 12 from rfl, pk_mul, Nat.mul_comm]) ⟨q + 1, b3 _ (q + 1) (by omega) ⟨pq_nb (x := 1) (by omega), ?_⟩⟩)
    refine hYw _ (fun _ => hY38 _ (br_f (by decide) ⟨13, c3 _ 13 (by omega) (d3 _ (nm_e ⟨pq_nb (x := 1) (by omega), rfl, ?_⟩))⟩)) (fun a => absurd hwh a)
    refine pi_mk (q := 0) (gt := pd_g gt r t) (gn := pd_g gn r (fun k => 12 * r + pd_E q t q k)) (gz := pu_set gz r q) ⟨by omega, hL, h3, pd_WF hw hr hq (fun i hi => (ht i hi).2.2) hok h0, ⟨fun s hs => ?_, fun r' hr' => ?_⟩, ⟨fun s hs => ?_, fun r' hr' => ?_⟩, hX, h8, ⟨pk_us, fun k hk => absurd hk (by omega)⟩⟩
    · rcases pd_lv.mp hs with ⟨hne, hlv⟩ | ⟨heq, h48, hk⟩
      · rw [pd_g_0 hne, pd_g_0 hne, (b2 s hne).1, (b2 s hne).2]; exact hGX.1 s hlv
      · have es : s = 12 * r + s % 12 := by omega
        generalize s % 12 = i at es hk
        subst es
        rw [pd_g_1 (by omega), pd_g_1 (by omega)]
        exact b1 i hk
    · by_cases e : r' = r
      · subst e; rw [pk_us, pu_s]
      · rw [pk_un e, pu_n e]; exact hGX.2 r' hr'
    · rcases pd_lv.mp hs with ⟨hne, hlv⟩ | ⟨heq, h48, hk⟩
      · have hs1 := hlv.1
        rw [pd_g_0 hne, pd_g_0 hne, c2 s hne, d2 s (by omega), s2 s (by omega)]; exact hGY.1 s hlv
      · have es : s = 12 * r + s % 12 := by omega
        generalize s % 12 = i at es hk
        subst es
        rw [pd_g_1 (by omega), pd_g_1 (by omega), c1 i (by omega), d1 i hk, cy_1 (hne i hk)]
        exact ⟨(ht i hk).2.1, rfl⟩
    · rw [pk_un (by omega)]
      by_cases e : r' = r
      · subst e; rw [pk_us, pu_s]; exact h9.1
      · rw [pk_un e, pu_n e]; exact hGY.2 r' hr'
  refine pk_eq q 0 (fun a => acc pa (Or.inl a) (fun i hi => absurd hi (by omega))) (fun a => ?_)
  obtain ⟨pa', p1, p2⟩ := px_7 (ln := nI L) (nc := nI n) (sc := sc) (pd := pd) (tk := tk) (af := af) (rs := rs) (tx := tx) (oc := oc) (nr := nr) (ns := ns) (ne := ne) (nd := nd) (ss := ss) (sp := sp) (sd := sd) hq (by omega) (fun i hi => ⟨(ht i hi).1, (ht i hi).2.2⟩) q (Nat.le_refl q) pa (fun i hi1 hi2 => absurd hi1 (by omega))
  refine nm_e ⟨q + 1, p2 _ (q + 1) (by omega) (fun b => ?_) (fun b => ?_)⟩
  · exact br_f (by decide) (acc pa' (Or.inr b) p1)
  · refine br_t rfl (hX25 _ _ (hYw _ (fun c => absurd c (by omega)) (fun _ => ?_)))
    exact br_f (nI_pos (by omega)) (br_f (nI_nlt (a := 3) (by omega) (by omega)) (br_t rfl (hY56 _ ⟨rfl, hI0 _⟩)))
end

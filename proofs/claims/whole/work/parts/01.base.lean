theorem pk_us {f : Nat → Int32} {k : Nat} {x : Int32} : upd f k x k = x := if_pos rfl
theorem pk_un {f : Nat → Int32} {k j : Nat} {x : Int32} (h : j ≠ k) : upd f k x j = f j := if_neg h
theorem pk_sub {a b : Nat} (h : b ≤ a) : nI a - nI b = nI (a - b) := by
  obtain ⟨c, rfl⟩ : ∃ c, a = c + b := ⟨a - b, by omega⟩
  rw [← nI_add, Int32.add_sub_cancel, Nat.add_sub_cancel]
theorem pk_m1 (n : Nat) : nI (n + 1) + (-1) = nI n := by
  rw [← nI_1, Int32.add_assoc, show (1 : Int32) + (-1) = 0 from rfl, Int32.add_zero]
theorem pk_mul (a b : Nat) : nI a * nI b = nI (a * b) := (Int32.ofNat_mul a b).symm
theorem pk_div {a d : Nat} (ha : a < 2 ^ 31) (h0 : 0 < d) (hd : d < 2 ^ 31) : nI a / nI d = nI (a / d) := by
  apply Int32.toInt_inj.mp
  rw [lg_idiv_nonneg (by rw [nI_toInt ha]; omega) (by rw [nI_toInt hd]; omega), nI_toInt ha, nI_toInt hd, nI_toInt (Nat.lt_of_le_of_lt (Nat.div_le_self a d) ha)]
  first | rfl | exact (Int.natCast_ediv _ _).symm
theorem pk_rem {a d : Nat} (ha : a < 2 ^ 31) (h0 : 0 < d) (hd : d < 2 ^ 31) : nI a - nI a / nI d * nI d = nI (a % d) := by
  rw [pk_div ha h0 hd, pk_mul, pk_sub (Nat.div_mul_le_self a d)]
  exact congrArg nI (by have := Nat.div_add_mod' a d; omega)
theorem pk_ix (x : Int32) {n : Nat} (hn : n < 2 ^ 31) : x < 0 ∨ nI n ≤ x ∨ ∃ j : Nat, j < n ∧ x = nI j := by
  by_cases h : x < 0
  · exact Or.inl h
  · obtain ⟨j, hj, rfl⟩ := nI_of h
    by_cases h2 : j < n
    · exact Or.inr (Or.inr ⟨j, h2, rfl⟩)
    · exact Or.inr (Or.inl (nI_le (by omega) hj))
theorem pk_le {x y : Int32} {A B : Prop} (a b : Nat) (f : a ≤ b → A) (g : b < a → B) (hx : x = nI a := by rfl) (hy : y = nI b := by rfl) (ha : a < 2 ^ 31 := by omega) (hb : b < 2 ^ 31 := by omega) : (x ≤ y → A) ∧ (¬ x ≤ y → B) := by
  subst hx hy
  rw [nI_leI ha hb]
  exact ⟨f, fun z => g (by omega)⟩
theorem pk_lt {x y : Int32} {A B : Prop} (a b : Nat) (f : a < b → A) (g : b ≤ a → B) (hx : x = nI a := by rfl) (hy : y = nI b := by rfl) (ha : a < 2 ^ 31 := by omega) (hb : b < 2 ^ 31 := by omega) : (x < y → A) ∧ (¬ x < y → B) := by
  subst hx hy
  rw [nI_ltI ha hb]
  exact ⟨f, fun z => g (by omega)⟩
theorem pk_eq {x y : Int32} {A B : Prop} (a b : Nat) (f : a = b → A) (g : a ≠ b → B) (hx : x = nI a := by rfl) (hy : y = nI b := by rfl) (ha : a < 2 ^ 31 := by omega) (hb : b < 2 ^ 31 := by omega) : (x = y → A) ∧ (¬ x = y → B) := by
  subst hx hy
  rw [nI_eq ha hb]
  exact ⟨f, g⟩
theorem pk_in {x : Int32} (n N : Nat) (h : n < N) (hx : x = nI n := by rfl) (hN : N < 2 ^ 31 := by omega) : vp_in x N := by
  subst hx
  exact vp_in_nI h hN
theorem pk_cl {x : Int32} (n : Nat) (hx : x = nI n := by rfl) (h : n < 2 ^ 31 := by omega) : x.toNatClampNeg = n := by
  subst hx
  exact nI_clamp h
/-- flat order: 0 is 'stuck' -/
def pg_le (a b : Nat) : Prop := a = 0 ∨ a = b
theorem pg_le_r (a : Nat) : pg_le a a := Or.inr rfl
theorem pg_le_as {a b : Nat} (h : pg_le a b) (h' : pg_le b a) : a = b := by
  unfold pg_le at h h'; omega
def pu_set (T : Nat → Nat) (c v : Nat) : Nat → Nat := fun k => if k = c then v else T k
theorem pu_s {T : Nat → Nat} {c v : Nat} : pu_set T c v c = v := if_pos rfl
theorem pu_n {T : Nat → Nat} {c v k : Nat} (h : k ≠ c) : pu_set T c v k = T k := if_neg h
section
variable (C : Nat → Prop) (Ph : (Nat → Nat) → Nat → Nat) (B : (Nat → Nat) → Prop)
def pg_Good (T : Nat → Nat) : Prop := B T ∧ (∀ c, C c → T c ≠ 0 → T c = Ph T c) ∧ (∀ P : Nat → Nat, (∀ c, C c → P c = Ph P c) → ∀ c, C c → pg_le (T c) (P c))
def pg_Mono : Prop := ∀ T T' : Nat → Nat, B T → (∀ c, C c → pg_le (T c) (T' c)) → ∀ c, C c → pg_le (Ph T c) (Ph T' c)
def pg_Keep : Prop := ∀ (T : Nat → Nat) (c : Nat), B T → C c → B (pu_set T c (Ph T c))
end
section
variable {C : Nat → Prop} {Ph : (Nat → Nat) → Nat → Nat} {B : (Nat → Nat) → Prop}
theorem pg_step (hm : pg_Mono C Ph B) (hk : pg_Keep C Ph B) {T : Nat → Nat} {c : Nat} (h : pg_Good C Ph B T) (hc : C c) (h0 : T c = 0) : pg_Good C Ph B (pu_set T c (Ph T c)) := by
  obtain ⟨hB, hP, hS⟩ := h
  have hle : ∀ d, C d → pg_le (T d) (pu_set T c (Ph T c) d) := by
    intro d hd
    by_cases e : d = c
    · subst e; exact Or.inl h0
    · rw [pu_n e]; exact Or.inr rfl
  have hF := hm T _ hB hle
  refine ⟨hk T c hB hc, ?_, ?_⟩
  · intro d hd hn
    by_cases e : d = c
    · subst e
      rw [pu_s] at hn ⊢
      rcases hF d hd with h | h
      · exact absurd h hn
      · exact h
    · rw [pu_n e] at hn ⊢
      rcases hF d hd with h | h
      · exact absurd ((hP d hd hn).trans h) hn
      · exact (hP d hd hn).trans h
  · intro P hPf d hd
    by_cases e : d = c
    · subst e
      rw [pu_s, hPf d hd]
      exact hm T P hB (hS P hPf) d hd
    · rw [pu_n e]
      exact hS P hPf d hd
theorem pg_fix {T : Nat → Nat} (h : pg_Good C Ph B T) (hz : ∀ c, C c → T c = 0 → Ph T c = 0) : ∀ c, C c → T c = Ph T c := by
  intro c hc
  by_cases h0 : T c = 0
  · rw [h0, hz c hc h0]
  · exact h.2.1 c hc h0
theorem pg_zero (hB : B (fun _ => 0)) : pg_Good C Ph B (fun _ => 0) := ⟨hB, fun _ _ h => absurd rfl h, fun _ _ _ _ => Or.inl rfl⟩
end
section
variable (C : Nat → Prop) (Ph : (Nat → Nat) → Nat → Nat) (B : (Nat → Nat) → Prop)
/-- a run of a round: from T0 to T, cells of W may have changed, cells of V are visited, x: 'something more was settled' -/
def pg_Rn (W V : Nat → Prop) (T0 T : Nat → Nat) (x : Nat) : Prop :=
  pg_Good C Ph B T ∧ (∀ c, T0 c ≠ 0 → T c = T0 c) ∧ (∀ c, ¬ W c → T c = T0 c) ∧
  (x = 0 → T = T0 ∧ ∀ c, V c → C c → T0 c = 0 → Ph T0 c = 0) ∧ (x ≠ 0 → ∃ c, C c ∧ W c ∧ T0 c = 0 ∧ T c ≠ 0) ∧ x ≤ 1
end
section
variable {C : Nat → Prop} {Ph : (Nat → Nat) → Nat → Nat} {B : (Nat → Nat) → Prop} {W V V' : Nat → Prop} {T0 T : Nat → Nat} {x c : Nat}
theorem pg_rn_0 (h : pg_Good C Ph B T) (hV : ∀ c, V c → ¬ C c) : pg_Rn C Ph B W V T T 0 :=
  ⟨h, fun _ _ => rfl, fun _ _ => rfl, fun _ => ⟨rfl, fun c hv hc => absurd hc (hV c hv)⟩, fun h => absurd rfl h, by omega⟩
theorem pg_rn_skip (h : pg_Rn C Ph B W V T0 T x) (hV : ∀ c, V' c → V c ∨ T c ≠ 0 ∨ ¬ C c) : pg_Rn C Ph B W V' T0 T x := by
  obtain ⟨h1, h2, h3, h4, h5, h6⟩ := h
  refine ⟨h1, h2, h3, fun hx => ?_, h5, h6⟩
  obtain ⟨e, h7⟩ := h4 hx
  refine ⟨e, fun c hv hc h0 => ?_⟩
  rcases hV c hv with h | h | h
  · exact h7 c h hc h0
  · rw [e] at h; exact absurd h0 h
  · exact absurd hc h
theorem pg_rn_zero (h : pg_Rn C Ph B W V T0 T x) (hz : Ph T c = 0) (hV : ∀ d, V' d → V d ∨ d = c) : pg_Rn C Ph B W V' T0 T x := by
  obtain ⟨h1, h2, h3, h4, h5, h6⟩ := h
  refine ⟨h1, h2, h3, fun hx => ?_, h5, h6⟩
  obtain ⟨e, h7⟩ := h4 hx
  refine ⟨e, fun d hv hc h0 => ?_⟩
  rcases hV d hv with h | h
  · exact h7 d h hc h0
  · subst h; rw [← e]; exact hz
theorem pg_rn_set (hm : pg_Mono C Ph B) (hk : pg_Keep C Ph B) (h : pg_Rn C Ph B W V T0 T x) (hc : C c) (hw : W c) (h0 : T c = 0) (hz : Ph T c ≠ 0) : pg_Rn C Ph B W V' T0 (pu_set T c (Ph T c)) 1 := by
  obtain ⟨h1, h2, h3, h4, h5, h6⟩ := h
  have h00 : T0 c = 0 := by
    by_cases e : T0 c = 0
    · exact e
    · exact absurd ((h2 c e).symm.trans h0) e
  refine ⟨pg_step hm hk h1 hc h0, ?_, ?_, fun hx => absurd hx (by decide), fun _ => ⟨c, hc, hw, h00, by rw [pu_s]; exact hz⟩, by omega⟩
  · intro d hd
    by_cases e : d = c
    · subst e; exact absurd h00 hd
    · rw [pu_n e]; exact h2 d hd
  · intro d hd
    by_cases e : d = c
    · subst e; exact absurd hw hd
    · rw [pu_n e]; exact h3 d hd
end
/-- how many of the first n are 0 -/
def pg_cn (f : Nat → Nat) : Nat → Nat
  | 0 => 0
  | n + 1 => pg_cn f n + (if f n = 0 then 1 else 0)
theorem pg_cn_le (f : Nat → Nat) : ∀ n, pg_cn f n ≤ n
  | 0 => Nat.le_refl 0
  | n + 1 => by
    have := pg_cn_le f n
    unfold pg_cn
    split <;> omega
theorem pg_cn_mono {f f' : Nat → Nat} : ∀ n, (∀ k, k < n → f' k = 0 → f k = 0) → pg_cn f' n ≤ pg_cn f n
  | 0, _ => Nat.le_refl 0
  | n + 1, h => by
    have h1 := pg_cn_mono n (fun k hk => h k (by omega))
    have h2 := h n (by omega)
    unfold pg_cn
    by_cases e : f' n = 0
    · rw [if_pos e, if_pos (h2 e)]; omega
    · rw [if_neg e]; omega
theorem pg_cn_lt {f f' : Nat → Nat} {k : Nat} (hk0 : f k = 0) (hk1 : f' k ≠ 0) : ∀ n, k < n → (∀ k, k < n → f' k = 0 → f k = 0) → pg_cn f' n < pg_cn f n
  | 0, h, _ => absurd h (by omega)
  | n + 1, hk, h => by
    have h2 := h n (by omega)
    unfold pg_cn
    by_cases e : k = n
    · subst e
      have h1 := pg_cn_mono k (fun j hj => h j (by omega))
      rw [if_neg hk1, if_pos hk0]; omega
    · have h1 := pg_cn_lt hk0 hk1 n (by omega) (fun j hj => h j (by omega))
      by_cases e : f' n = 0
      · rw [if_pos e, if_pos (h2 e)]; omega
      · rw [if_neg e]; omega

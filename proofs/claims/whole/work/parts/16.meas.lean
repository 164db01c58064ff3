def pd_ap (n : Nat) (e : Nat → Nat) (j : Nat) : Nat := if 0 < j ∧ j < n then e j else 0
/-- where the expression at k ends, 0 if the list breaks off -/
def pd_ms (n : Nat) (t e : Nat → Nat) (k : Nat) : Nat :=
  if t k = 3 then (if k + 2 < n ∧ (97 ≤ t (k + 1) ∧ t (k + 1) ≤ 122) ∧ (97 ≤ t (k + 2) ∧ t (k + 2) ≤ 122) then k + 3 else 0)
  else if t k = 10 ∨ t k = 11 then pd_ap n e (pd_ap n e (k + 1))
  else if 12 ≤ t k ∧ t k ≤ 16 then pd_ap n e (k + 1)
  else k + 1
/-- the measures, from the last token on: j of them are done -/
def pd_E (n : Nat) (t : Nat → Nat) : Nat → Nat → Nat
  | 0 => fun _ => 0
  | j + 1 => pu_set (pd_E n t j) (n - 1 - j) (pd_ms n t (pd_E n t j) (n - 1 - j))
def pd_bd (n k v : Nat) : Prop := v = 0 ∨ (k < v ∧ v ≤ n)
section
variable {n : Nat} {t e e' : Nat → Nat}
theorem pd_ap_0 {j : Nat} (h : ¬ (0 < j ∧ j < n)) : pd_ap n e j = 0 := if_neg h
theorem pd_ap_1 {j : Nat} (h0 : 0 < j) (h1 : j < n) : pd_ap n e j = e j := if_pos ⟨h0, h1⟩
theorem pd_ap_bd {j : Nat} (h : j < n → pd_bd n j (e j)) : pd_bd n j (pd_ap n e j) := by
  unfold pd_ap
  split
  · exact h (by omega)
  · exact Or.inl rfl
theorem pd_ms_bd {k : Nat} (hk : k < n) (h : ∀ i, k < i → i < n → pd_bd n i (e i)) : pd_bd n k (pd_ms n t e k) := by
  have h1 : pd_bd n (k + 1) (pd_ap n e (k + 1)) := pd_ap_bd fun h2 => h _ (by omega) h2
  unfold pd_ms
  split
  · split
    · unfold pd_bd; omega
    · exact Or.inl rfl
  split
  · by_cases h0 : pd_ap n e (k + 1) = 0
    · rw [h0, pd_ap_0 (by omega)]; exact Or.inl rfl
    · have h2 : pd_bd n (pd_ap n e (k + 1)) (pd_ap n e (pd_ap n e (k + 1))) := pd_ap_bd fun h3 => h _ (by unfold pd_bd at h1; omega) h3
      unfold pd_bd at *
      omega
  split
  · unfold pd_bd at *; omega
  · unfold pd_bd; omega
theorem pd_ms_congr {k : Nat} (hb : k + 1 < n → pd_bd n (k + 1) (e (k + 1))) (h : ∀ i, k < i → i < n → e i = e' i) : pd_ms n t e k = pd_ms n t e' k := by
  have h1 : pd_ap n e (k + 1) = pd_ap n e' (k + 1) := by
    unfold pd_ap
    by_cases c : 0 < k + 1 ∧ k + 1 < n
    · rw [if_pos c, if_pos c]; exact h _ (by omega) c.2
    · rw [if_neg c, if_neg c]
  have h2 : pd_ap n e (pd_ap n e (k + 1)) = pd_ap n e' (pd_ap n e' (k + 1)) := by
    rw [← h1]
    have h3 : pd_bd n (k + 1) (pd_ap n e (k + 1)) := pd_ap_bd hb
    generalize pd_ap n e (k + 1) = w at h3
    unfold pd_ap
    by_cases c : 0 < w ∧ w < n
    · rw [if_pos c, if_pos c]; exact h _ (by unfold pd_bd at h3; omega) c.2
    · rw [if_neg c, if_neg c]
  unfold pd_ms
  rw [h2, h1]
theorem pd_E_n {j k : Nat} (h : k ≠ n - 1 - j) : pd_E n t (j + 1) k = pd_E n t j k := pu_n h
theorem pd_E_s {j : Nat} : pd_E n t (j + 1) (n - 1 - j) = pd_ms n t (pd_E n t j) (n - 1 - j) := pu_s
theorem pd_E_ok : ∀ j, j ≤ n → ∀ k, n - j ≤ k → k < n → pd_bd n k (pd_E n t j k) ∧ pd_E n t j k = pd_ms n t (pd_E n t j) k := by
  intro j
  induction j with
  | zero => intro _ k h1 h2; omega
  | succ j ih =>
    intro hj k h1 h2
    have ih := ih (by omega)
    have hc : pd_ms n t (pd_E n t j) k = pd_ms n t (pd_E n t (j + 1)) k := pd_ms_congr (fun h => (ih _ (by omega) h).1) fun i hi _ => (pd_E_n (by omega)).symm
    by_cases e : k = n - 1 - j
    · have e2 : pd_E n t (j + 1) k = pd_ms n t (pd_E n t j) k := by rw [e]; exact pd_E_s
      rw [← hc, e2]
      exact ⟨pd_ms_bd h2 fun i hi hn => (ih i (by omega) hn).1, rfl⟩
    · rw [← hc, pd_E_n e]
      exact ih k (by omega) h2
theorem pd_cover (h : ∀ k, k < n → pd_bd n k (e k) ∧ e k = pd_ms n t e k) : ∀ d p, n ≤ p + d → p < n → e p ≠ 0 → ∀ q, p ≤ q → q < e p → e q ≠ 0 := by
  intro d
  induction d with
  | zero => intro p h1 h2; omega
  | succ d ih =>
    intro p hd hp h0 q hq1 hq2
    by_cases hqp : q = p
    · rw [hqp]; exact h0
    have hb := (h p hp).1
    have he := (h p hp).2
    have hb1 : p + 1 < n → pd_bd n (p + 1) (e (p + 1)) := fun h1 => (h _ h1).1
    unfold pd_ms at he
    by_cases t3 : t p = 3
    · rw [if_pos t3] at he
      by_cases c : p + 2 < n ∧ (97 ≤ t (p + 1) ∧ t (p + 1) ≤ 122) ∧ (97 ≤ t (p + 2) ∧ t (p + 2) ≤ 122)
      · rw [if_pos c] at he
        have hqt : 97 ≤ t q ∧ t q ≤ 122 := by
          have hq3 : q = p + 1 ∨ q = p + 2 := by omega
          rcases hq3 with h3 | h3
          · rw [h3]; exact c.2.1
          · rw [h3]; exact c.2.2
        have hq3 := (h q (by omega)).2
        unfold pd_ms at hq3
        rw [if_neg (by omega), if_neg (by omega), if_neg (by omega)] at hq3
        omega
      · rw [if_neg c] at he; omega
    rw [if_neg t3] at he
    by_cases t10 : t p = 10 ∨ t p = 11
    · rw [if_pos t10] at he
      by_cases c1 : 0 < p + 1 ∧ p + 1 < n
      · rw [pd_ap_1 c1.1 c1.2] at he
        by_cases c2 : 0 < e (p + 1) ∧ e (p + 1) < n
        · rw [pd_ap_1 c2.1 c2.2] at he
          by_cases hw : q < e (p + 1)
          · exact ih (p + 1) (by omega) c1.2 (by omega) q (by omega) hw
          · have hb1 := hb1 c1.2
            unfold pd_bd at hb1
            exact ih (e (p + 1)) (by omega) c2.2 (by omega) q (by omega) (by omega)
        · rw [pd_ap_0 c2] at he; omega
      · rw [pd_ap_0 c1, pd_ap_0 (by omega)] at he; omega
    rw [if_neg t10] at he
    by_cases t12 : 12 ≤ t p ∧ t p ≤ 16
    · rw [if_pos t12] at he
      by_cases c1 : 0 < p + 1 ∧ p + 1 < n
      · rw [pd_ap_1 c1.1 c1.2] at he
        exact ih (p + 1) (by omega) c1.2 (by omega) q (by omega) (by omega)
      · rw [pd_ap_0 c1] at he; omega
    rw [if_neg t12] at he
    omega
end
/-- the grammar with rule r's list set -/
def pd_g (f : Nat → Nat) (r : Nat) (t : Nat → Nat) (s : Nat) : Nat := if s / 12 = r then t (s % 12) else f s
theorem pd_g_1 {f t : Nat → Nat} {r k : Nat} (hk : k < 12) : pd_g f r t (12 * r + k) = t k := by
  unfold pd_g
  rw [if_pos (by omega), show (12 * r + k) % 12 = k from by omega]
theorem pd_g_0 {f t : Nat → Nat} {r s : Nat} (h : s / 12 ≠ r) : pd_g f r t s = f s := if_neg h
theorem pd_lv {gz : Nat → Nat} {r n s : Nat} : pg_lv (pu_set gz r n) s ↔ (s / 12 ≠ r ∧ pg_lv gz s) ∨ (s / 12 = r ∧ s < 48 ∧ s % 12 < n) := by
  unfold pg_lv
  by_cases h : s / 12 = r
  · rw [h, pu_s]
    constructor
    · intro h2; exact Or.inr ⟨rfl, h2.1, h2.2⟩
    · rintro (h2 | h2)
      · exact absurd rfl h2.1
      · exact ⟨h2.2.1, h2.2.2⟩
  · rw [pu_n h]
    constructor
    · intro h2; exact Or.inl ⟨h, h2⟩
    · rintro (h2 | h2)
      · exact h2.2
      · exact absurd h2.1 h
theorem pd_WF {gt gn gz : Nat → Nat} {r n : Nat} {t e : Nat → Nat} (hw : pg_WF gt gn gz) (hr : r < 4) (hn : n ≤ 12) (ht : ∀ k, k < n → pg_tv (t k)) (h : ∀ k, k < n → pd_bd n k (e k) ∧ e k = pd_ms n t e k) (h0 : n ≠ 0 → e 0 = n) : pg_WF (pd_g gt r t) (pd_g gn r (fun k => 12 * r + e k)) (pu_set gz r n) := by
  refine ⟨fun r' hr' => ?_, fun s hs => ?_⟩
  · by_cases e : r' = r
    · rw [e, pu_s]; exact hn
    · rw [pu_n e]; exact hw.1 r' hr'
  rcases pd_lv.mp hs with ⟨hne, hlv⟩ | ⟨heq, h48, hk⟩
  · obtain ⟨w1, w2, w3, w4, w5, w6⟩ := hw.2 s hlv
    have hs48 := hlv.1
    have hz := hw.1 (s / 12) (by omega)
    have eg : pd_g gt r t s = gt s := pd_g_0 hne
    have en : pd_g gn r (fun k => 12 * r + e k) s = gn s := pd_g_0 hne
    unfold pg_W1
    rw [eg, en, pu_n hne]
    refine ⟨w1, w2, w3, fun a b => ?_, fun a => ?_, fun a => ?_⟩
    · have := w3 (by omega) b
      rw [pd_g_0 (by omega)]; exact w4 a b
    · have h3 := w3 (by omega) (by omega)
      have h5 := w5 a
      have hl := (pg_lv_1 hw hlv (by omega) (by omega)).1
      have hg := (hw.2 _ hl).1
      rw [pd_g_0 (s := s + 1) (by omega), pd_g_0 (by omega)]
      exact h5
    · have h6 := w6 a
      rw [pd_g_0 (s := s + 1) (by omega), pd_g_0 (s := s + 2) (by omega)]
      exact h6
  · obtain ⟨k, rfl, hk12⟩ : ∃ k, s = 12 * r + k ∧ k < 12 := ⟨s % 12, by omega, by omega⟩
    have ek : (12 * r + k) % 12 = k := by omega
    rw [ek] at hk
    have hcov := pd_cover h n 0 (by omega) (by omega) (by rw [h0 (by omega)]; omega)
    have hne : ∀ q, q < n → e q ≠ 0 := fun q hq => hcov q (by omega) (by rw [h0 (by omega)]; exact hq)
    have hb := (h k hk).1
    have he := (h k hk).2
    have hek := hne k hk
    unfold pd_bd at hb
    unfold pd_ms at he
    unfold pg_W1
    have ed : (12 * r + k) / 12 = r := by omega
    rw [ed, pu_s, pd_g_1 hk12, pd_g_1 hk12]
    have hap : pd_ap n e (k + 1) ≠ 0 → k + 1 < n ∧ pd_ap n e (k + 1) = e (k + 1) := by
      intro h1
      by_cases c : 0 < k + 1 ∧ k + 1 < n
      · exact ⟨c.2, pd_ap_1 c.1 c.2⟩
      · exact absurd (pd_ap_0 c) h1
    have hu : 12 ≤ t k → t k ≤ 16 → k + 1 < n ∧ e k = e (k + 1) := by
      intro a b
      rw [if_neg (by omega), if_neg (by omega), if_pos ⟨a, b⟩] at he
      have h1 := hap (by omega)
      exact ⟨h1.1, he.trans h1.2⟩
    have hbn : t k = 10 ∨ t k = 11 → k + 1 < n ∧ e (k + 1) < n ∧ e k = e (e (k + 1)) := by
      intro a
      rw [if_neg (by omega), if_pos a] at he
      by_cases z : pd_ap n e (k + 1) = 0
      · rw [z, pd_ap_0 (by omega)] at he; omega
      · have h1 := hap z
        rw [h1.2] at he
        by_cases c : 0 < e (k + 1) ∧ e (k + 1) < n
        · rw [pd_ap_1 c.1 c.2] at he; exact ⟨h1.1, c.2, he⟩
        · rw [pd_ap_0 c] at he; omega
    refine ⟨by omega, ht k hk, fun a b => ?_, fun a b => ?_, fun a => ?_, fun a => ?_⟩
    · by_cases c : t k = 10 ∨ t k = 11
      · have := hbn c; omega
      · have := hu (by omega) b; omega
    · have h1 := hu a b
      rw [Nat.add_assoc, pd_g_1 (by omega)]
      show 12 * r + e k = 12 * r + e (k + 1)
      omega
    · have h1 := hbn a
      rw [Nat.add_assoc, pd_g_1 (by omega)]
      show 12 * r + e (k + 1) < 12 * r + n ∧ 12 * r + e k = pd_g gn r (fun k => 12 * r + e k) (12 * r + e (k + 1))
      rw [pd_g_1 (by omega)]
      show 12 * r + e (k + 1) < 12 * r + n ∧ 12 * r + e k = 12 * r + e (e (k + 1))
      omega
    · rw [if_pos a] at he
      by_cases c : k + 2 < n ∧ (97 ≤ t (k + 1) ∧ t (k + 1) ≤ 122) ∧ (97 ≤ t (k + 2) ∧ t (k + 2) ≤ 122)
      · rw [Nat.add_assoc, Nat.add_assoc, pd_g_1 (by omega), pd_g_1 (by omega)]
        omega
      · rw [if_neg c] at he; omega

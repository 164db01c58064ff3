def pd_cx (v : Nat) : Int32 := if v = 0 then -1 else nI v
theorem cx_0 : pd_cx 0 = -1 := rfl
theorem cx_1 {v : Nat} (h : v ≠ 0) : pd_cx v = nI v := if_neg h
section
variable {ln nc sc : Int32} {pd pa tk af rs tx oc nr ns ne nd ss sp sd : Nat → Int32} {n k : Nat} {t e : Nat → Nat} {x : Int32}
theorem px_aP {post : Int32 → Prop} (w : Nat) (hx : x = pd_cx w) (hn : n ≤ 12) (hw : w < 100) (hp : 0 < w → w < n → pa w = pd_cx (e w)) (h : post (pd_cx (pd_ap n e w))) : wpX_afterPart post (nI n, ln, nc, sc, pd, pa, tk, af, rs, tx, oc, nr, ns, ne, nd, ss, sp, sd) x := by
  subst hx
  by_cases w0 : w = 0
  · subst w0
    rw [pd_ap_0 (by omega)] at h
    exact br_t (by decide) h
  · rw [cx_1 w0]
    refine br_f (nI_pos (by omega)) (pk_le n w (fun h1 => ?_) (fun h1 => ?_))
    · rw [pd_ap_0 (by omega)] at h; exact h
    · rw [pd_ap_1 (by omega) h1, ← hp (by omega) h1] at h
      rw [nI_clamp (by omega)]
      exact ⟨vp_in_nI (by omega) (by decide), h⟩
theorem px_let {post : Int32 → Prop} {t : Nat} (ht : t < 2 ^ 31) (h1 : 97 ≤ t ∧ t ≤ 122 → post 1) (h0 : ¬ (97 ≤ t ∧ t ≤ 122) → post 0) : wpX_isLetter post (nI t) :=
  pk_lt t 97 (fun a => h0 (by omega)) (fun a => pk_lt 122 t (fun b => h0 (by omega)) (fun b => h1 (by omega)))
theorem px_ms {post : Int32 → Prop} (hn : n ≤ 12) (hk : k < n) (ht : ∀ i, i < n → pd i = nI (t i) ∧ pg_tv (t i)) (hb : ∀ i, k < i → i < n → pd_bd n i (e i)) (hp : ∀ i, k < i → i < n → pa i = pd_cx (e i)) (h : post (pd_cx (pd_ms n t e k))) : wpX_measure post (nI n, ln, nc, sc, pd, pa, tk, af, rs, tx, oc, nr, ns, ne, nd, ss, sp, sd) (nI k) := by
  have tv : ∀ i, i < n → t i < 2 ^ 31 := fun i hi => by have := (ht i hi).2; unfold pg_tv at this; omega
  have tk0 := tv k hk
  have tvk := (ht k hk).2
  unfold pg_tv at tvk
  have h1 : pd_bd n (k + 1) (pd_ap n e (k + 1)) := pd_ap_bd fun h2 => hb _ (by omega) h2
  refine ⟨vp_in_nI (by omega) (by decide), nm_r (e' := nI (t k)) (by rw [nI_clamp (by omega)]; exact (ht k hk).1) ?_⟩
  have e2 : nI k + 2 = nI (k + 2) := by rw [show (2 : Int32) = nI 2 from rfl, nI_add]
  have e3 : nI k + 3 = nI (k + 3) := by rw [show (3 : Int32) = nI 3 from rfl, nI_add]
  have ec : nI k + 1 = pd_cx (k + 1) := by rw [nI_1, cx_1 (by omega)]
  unfold pd_ms at h
  refine pk_eq (t k) 3 (fun a => ?_) (fun a => ?_)
  · rw [if_pos a] at h
    have hX0 : ¬ (k + 2 < n ∧ (97 ≤ t (k + 1) ∧ t (k + 1) ≤ 122) ∧ (97 ≤ t (k + 2) ∧ t (k + 2) ≤ 122)) → post (-1) := fun c => by rw [if_neg c] at h; exact h
    have hX1 : (k + 2 < n ∧ (97 ≤ t (k + 1) ∧ t (k + 1) ≤ 122) ∧ (97 ≤ t (k + 2) ∧ t (k + 2) ≤ 122)) → post (nI k + 3) := fun c => by rw [if_pos c, cx_1 (by omega)] at h; rw [e3]; exact h
    refine pk_le n (k + 2) (fun c => br_t rfl (hX0 (by omega))) (fun c => ?_) rfl e2
    rw [nI_1, e2, nI_clamp (by omega), nI_clamp (by omega), (ht (k + 1) (by omega)).1, (ht (k + 2) c).1]
    refine ⟨vp_in_nI (by omega) (by decide), px_let (tv _ (by omega)) (fun c1 => br_f (by decide) ⟨vp_in_nI (by omega) (by decide), px_let (tv _ c) (fun c2 => br_f (by decide) (br_f (by decide) (hX1 ⟨c, c1, c2⟩))) (fun c2 => br_t rfl (br_t rfl (hX0 (fun c3 => c2 c3.2.2))))⟩) (fun c1 => br_t rfl (br_t rfl (hX0 (fun c3 => c1 c3.2.1))))⟩
  rw [if_neg a] at h
  have k40 : (t k = 10 ∨ t k = 11) → wX_measure_40 post (nI k) (nI n) ln nc sc pd pa tk af rs tx oc nr ns ne nd ss sp sd := by
    intro c
    rw [if_pos c] at h
    unfold wX_measure_40
    refine px_aP (k + 1) ec hn (by omega) (fun _ h3 => hp _ (by omega) h3) ?_
    refine px_aP (pd_ap n e (k + 1)) rfl hn (by unfold pd_bd at h1; omega) (fun h3 h4 => hp _ (by unfold pd_bd at h1; omega) h4) h
  refine pk_eq (t k) 10 (fun b => k40 (Or.inl b)) (fun b => pk_eq (t k) 11 (fun c => k40 (Or.inr c)) (fun c => ?_))
  rw [if_neg (by omega)] at h
  have k1 : ¬ (12 ≤ t k ∧ t k ≤ 16) → post (nI k + 1) := fun c => by rw [if_neg c, cx_1 (by omega)] at h; rw [nI_1]; exact h
  refine pk_lt (t k) 12 (fun d => k1 (by omega)) (fun d => pk_lt 16 (t k) (fun f => k1 (by omega)) (fun f => ?_))
  rw [if_pos ⟨d, f⟩] at h
  exact px_aP (k + 1) ec hn (by omega) (fun _ h3 => hp _ (by omega) h3) h
end
section
variable {ln nc sc : Int32} {pd tk af rs tx oc nr ns ne nd ss sp sd : Nat → Int32} {n : Nat} {t : Nat → Nat}
theorem px_7 (hn : n ≤ 12) (hn0 : 0 < n) (ht : ∀ i, i < n → pd i = nI (t i) ∧ pg_tv (t i)) : ∀ c, c ≤ n → ∀ pa : Nat → Int32, (∀ i, c ≤ i → i < n → pa i = pd_cx (pd_E n t (n - c) i)) → ∃ pa' : Nat → Int32, (∀ i, i < n → pa' i = pd_cx (pd_E n t n i)) ∧ ∀ (post : Int32 → SX → Prop) (m : Nat), c < m → (pd_E n t n 0 = n → post 1 (nI n, ln, nc, sc, pd, pa', tk, af, rs, tx, oc, nr, ns, ne, nd, ss, sp, sd)) → (pd_E n t n 0 ≠ n → post 0 (nI n, ln, nc, sc, pd, pa', tk, af, rs, tx, oc, nr, ns, ne, nd, ss, sp, sd)) → wX_pendingIsOneExpression_7 post (nI n) ln nc sc m (nI c - 1) pd pa tk af rs tx oc nr ns ne nd ss sp sd := by
  intro c
  induction c with
  | zero =>
    intro _ pa hp
    refine ⟨pa, fun i hi => hp i (by omega) hi, fun post m hm h1 h0 => ?_⟩
    obtain ⟨m, rfl⟩ : ∃ m', m = m' + 1 := ⟨m - 1, by omega⟩
    have e0 := hp 0 (by omega) hn0
    rw [Nat.sub_zero] at e0
    have hb := (pd_E_ok (t := t) n (Nat.le_refl n) 0 (by omega) hn0).1
    refine br_t (by decide) ?_
    rw [e0]
    by_cases z : pd_E n t n 0 = 0
    · rw [z, cx_0]
      refine br_f (fun e => ?_) (h0 (by omega))
      have h2 : (-1 : Int32) < 0 := by decide
      rw [e] at h2
      exact nI_pos (by omega) h2
    · rw [cx_1 z]
      unfold pd_bd at hb
      exact pk_eq (pd_E n t n 0) n (fun e => h1 e) (fun e => h0 e)
  | succ c ih =>
    intro hc pa hp
    have hok := pd_E_ok (n := n) (t := t) (n - (c + 1)) (by omega)
    have ec : n - 1 - (n - (c + 1)) = c := by omega
    have en : n - c = n - (c + 1) + 1 := by omega
    obtain ⟨pa', h1, h2⟩ := ih (by omega) (upd pa c (pd_cx (pd_ms n t (pd_E n t (n - (c + 1))) c))) (fun i hi1 hi2 => by
      rw [en]
      by_cases e : i = c
      · subst e
        rw [pk_us]
        have := pd_E_s (n := n) (t := t) (j := n - (i + 1))
        rw [ec] at this
        rw [this]
      · rw [pk_un e, pd_E_n (by omega)]
        exact hp i (by omega) hi2)
    refine ⟨pa', h1, fun post m hm hh1 hh0 => ?_⟩
    obtain ⟨m, rfl⟩ : ∃ m', m = m' + 1 := ⟨m - 1, by omega⟩
    rw [nI_pred]
    refine br_f (nI_pos (by omega)) (px_ms hn (by omega) ht (fun i a b => (hok i (by omega) b).1) (fun i a b => hp i (by omega) b) ?_)
    rw [nI_clamp (by omega)]
    exact ⟨vp_in_nI (by omega) (by decide), nm_e (nm_r (pq_pm c) (h2 post m (by omega) hh1 hh0))⟩
end
section
variable {ln nc sc : Int32} {pd pa rs tx oc nr ns ne nd ss sp sd : Nat → Int32} {n r : Nat} {t e : Nat → Nat}
theorem px_tP7 (hn : n ≤ 12) (hr : r < 4) (ht : ∀ i, i < n → pd i = nI (t i)) (hp : ∀ i, i < n → pa i = nI (e i)) (tk0 af0 : Nat → Int32) : ∀ d k, k + d = n → ∀ tk af : Nat → Int32, (∀ i, i < k → tk (12 * r + i) = nI (t i) ∧ af (12 * r + i) = nI (12 * r + e i)) → (∀ s, s / 12 ≠ r → tk s = tk0 s ∧ af s = af0 s) → ∃ tk' af' : Nat → Int32, (∀ i, i < n → tk' (12 * r + i) = nI (t i) ∧ af' (12 * r + i) = nI (12 * r + e i)) ∧ (∀ s, s / 12 ≠ r → tk' s = tk0 s ∧ af' s = af0 s) ∧ ∀ (post : SX → Prop) (m : Nat), d < m → post (nI n, ln, nc, sc, pd, pa, tk', af', upd rs r (nI n), tx, oc, nr, ns, ne, nd, ss, sp, sd) → wX_takePending_7 post (nI r) (nI (12 * r)) (nI n) ln nc sc m (nI k) pd pa tk af rs tx oc nr ns ne nd ss sp sd := by
  intro d
  induction d with
  | zero =>
    intro k hk tk af h1 h2
    refine ⟨tk, af, fun i hi => h1 i (by omega), h2, fun post m hm h => ?_⟩
    obtain ⟨m, rfl⟩ : ∃ m', m = m' + 1 := ⟨m - 1, by omega⟩
    refine br_t (nI_le (by omega) (by omega)) ⟨vp_in_nI hr (by decide), ?_⟩
    rw [nI_clamp (by omega)]
    exact nm_e h
  | succ d ih =>
    intro k hk tk af h1 h2
    obtain ⟨tk', af', a1, a2, a3⟩ := ih (k + 1) (by omega) (upd tk (12 * r + k) (nI (t k))) (upd af (12 * r + k) (nI (12 * r + e k))) (fun i hi => by
      by_cases e : i = k
      · subst e; rw [pk_us, pk_us]; exact ⟨rfl, rfl⟩
      · rw [pk_un (by omega), pk_un (by omega)]; exact h1 i (by omega)) (fun s hs => by
      rw [pk_un (by omega), pk_un (by omega)]; exact h2 s hs)
    refine ⟨tk', af', a1, a2, fun post m hm h => ?_⟩
    obtain ⟨m, rfl⟩ : ∃ m', m = m' + 1 := ⟨m - 1, by omega⟩
    refine br_f (nI_ge (by omega) (by omega)) ?_
    rw [nI_add, nI_clamp (by omega), nI_clamp (by omega), ht k (by omega), hp k (by omega), nI_add]
    exact ⟨vp_in_nI (by omega) (by decide), vp_in_nI (by omega) (by decide), nm_e ⟨vp_in_nI (by omega) (by decide), vp_in_nI (by omega) (by decide), nm_e (nm_r (nI_1 k) (a3 post m (by omega) h))⟩⟩
end

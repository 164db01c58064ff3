def pd_cy (b v : Nat) : Int32 := if v = 0 then 0 else nI (b + v)
theorem cy_0 {b : Nat} : pd_cy b 0 = 0 := rfl
theorem cy_1 {b v : Nat} (h : v ≠ 0) : pd_cy b v = nI (b + v) := if_neg h
theorem pq_dn {b : Nat} (h : b < 2 ^ 31) : nI b - 1 < nI b := by
  cases b with
  | zero => decide
  | succ b => rw [nI_pred]; exact nI_lt (by omega) h
section
variable {yl yt yk : Int32} {tok len nxt tx dos ag tc tp td kp : Nat → Int32} {b n k : Nat} {t e : Nat → Nat}
theorem py_let {post : Int32 → Prop} {t : Nat} (ht : t < 2 ^ 31) (h1 : 97 ≤ t ∧ t ≤ 122 → post 1) (h0 : ¬ (97 ≤ t ∧ t ≤ 122) → post 0) : wpY_isLetter post (nI t) :=
  pk_lt t 97 (fun a => h0 (by omega)) (fun a => pk_lt 122 t (fun b => h0 (by omega)) (fun b => h1 (by omega)))
theorem py_79 {post : SY → Prop} {J : Int32 → (Nat → Int32) → (Nat → Int32) → (Nat → Int32) → (Nat → Int32) → (Nat → Int32) → (Nat → Int32) → (Nat → Int32) → (Nat → Int32) → (Nat → Int32) → (Nat → Int32) → Prop} (hb : b ≤ 48) (hn : n ≤ 12) (hk : k < n) (ht : ∀ i, i < n → tok (b + i) = nI (t i) ∧ pg_tv (t i)) (h : J (nI (b + k) - 1) tok len (upd nxt (b + k) (pd_cy b (pd_ms n t e k))) tx dos ag tc tp td kp) : wY_survey_79 post J (nI b) (nI (b + n)) (nI (b + k)) (nI (t k)) (pd_cy b (pd_ap n e (k + 1))) (pd_cy b (pd_ap n e (pd_ap n e (k + 1)))) yl yt yk tok len nxt tx dos ag tc tp td kp := by
  have tv : ∀ i, i < n → t i < 2 ^ 31 := fun i hi => by have := (ht i hi).2; unfold pg_tv at this; omega
  have tk0 := tv k hk
  have tvk := (ht k hk).2
  unfold pg_tv at tvk
  have e2 : nI (b + k) + 2 = nI (b + (k + 2)) := by rw [show (2 : Int32) = nI 2 from rfl, nI_add, Nat.add_assoc]
  have e3 : nI (b + k) + 3 = nI (b + (k + 3)) := by rw [show (3 : Int32) = nI 3 from rfl, nI_add, Nat.add_assoc]
  have e1 : nI (b + k) + 1 = nI (b + (k + 1)) := nI_1 (b + k)
  have hv : vp_in (nI (b + k)) 60 := vp_in_nI (by omega) (by decide)
  have ecl : (nI (b + k)).toNatClampNeg = b + k := nI_clamp (by omega)
  have fin : ∀ w : Int32, w = pd_cy b (pd_ms n t e k) → vp_in (nI (b + k)) 60 ∧ ∀ a, a = upd nxt (nI (b + k)).toNatClampNeg w → ∀ y : Int32, y = nI (b + k) + (-1) → J y tok len a tx dos ag tc tp td kp := by
    intro w hw
    rw [ecl, hw]
    exact ⟨hv, nm_e (nm_r (pq_pm (b + k)) h)⟩
  unfold pd_ms at fin
  refine pk_eq (t k) 3 (fun a => ?_) (fun a => ?_)
  · rw [if_pos a] at fin
    have hX0 : ¬ (k + 2 < n ∧ (97 ≤ t (k + 1) ∧ t (k + 1) ≤ 122) ∧ (97 ≤ t (k + 2) ∧ t (k + 2) ≤ 122)) → _ := fun c => fin 0 (by rw [if_neg c, cy_0])
    have hX1 : (k + 2 < n ∧ (97 ≤ t (k + 1) ∧ t (k + 1) ≤ 122) ∧ (97 ≤ t (k + 2) ∧ t (k + 2) ≤ 122)) → _ := fun c => fin (nI (b + k) + 3) (by rw [if_pos c, cy_1 (by omega), e3])
    refine pk_le (b + n) (b + (k + 2)) (fun c => hX0 (by omega)) (fun c => ?_) rfl e2
    rw [e1, e2]
    rw [nI_clamp (n := b + (k + 1)) (by omega), nI_clamp (n := b + (k + 2)) (by omega), (ht (k + 1) (by omega)).1, (ht (k + 2) (by omega)).1]
    refine ⟨vp_in_nI (by omega) (by decide), py_let (tv _ (by omega)) (fun c1 => br_f (by decide) ⟨vp_in_nI (by omega) (by decide), py_let (tv _ (by omega)) (fun c2 => br_f (by decide) (hX1 ⟨by omega, c1, c2⟩)) (fun c2 => br_t rfl (hX0 (fun c3 => c2 c3.2.2)))⟩) (fun c1 => br_t rfl (hX0 (fun c3 => c1 c3.2.1)))⟩
  rw [if_neg a] at fin
  have k157 : ¬ (10 ≤ t k ∧ t k ≤ 16) → wY_survey_157 post J (nI b) (nI (b + n)) (nI (b + k)) yl yt yk tok len nxt tx dos ag tc tp td kp := fun c => fin (nI (b + k) + 1) (by rw [if_neg (by omega), if_neg (by omega), cy_1 (by omega), e1])
  refine pk_lt (t k) 10 (fun c => k157 (by omega)) (fun c => pk_lt (t k) 20 (fun d => pk_le 12 (t k) (fun f => ?_) (fun f => ?_)) (fun d => k157 (by omega)))
  · exact fin _ (by rw [if_neg (by omega), if_pos (by omega)])
  · exact fin _ (by rw [if_pos (by omega)])
theorem py_55 {post : SY → Prop} {J : Int32 → (Nat → Int32) → (Nat → Int32) → (Nat → Int32) → (Nat → Int32) → (Nat → Int32) → (Nat → Int32) → (Nat → Int32) → (Nat → Int32) → (Nat → Int32) → (Nat → Int32) → Prop} (hb : b ≤ 48) (hn : n ≤ 12) (hk : k < n) (ht : ∀ i, i < n → tok (b + i) = nI (t i) ∧ pg_tv (t i)) (hbd : ∀ i, k < i → i < n → pd_bd n i (e i)) (hx : ∀ i, k < i → i < n → nxt (b + i) = pd_cy b (e i)) (h : J (nI (b + k) - 1) tok len (upd nxt (b + k) (pd_cy b (pd_ms n t e k))) tx dos ag tc tp td kp) : wY_survey_55 post J (nI b) (nI (b + n)) (nI (b + k)) (nI (t k)) (pd_cy b (pd_ap n e (k + 1))) yl yt yk tok len nxt tx dos ag tc tp td kp := by
  have h79 := py_79 (yl := yl) (yt := yt) (yk := yk) (post := post) (e := e) hb hn hk ht h
  have h1 : pd_bd n (k + 1) (pd_ap n e (k + 1)) := pd_ap_bd fun h2 => hbd _ (by omega) h2
  by_cases w0 : pd_ap n e (k + 1) = 0
  · rw [w0, pd_ap_0 (by omega)] at h79
    rw [w0]
    exact br_t (show (0 : Int32) ≤ 0 from by decide) h79
  · have h2 : k + 1 < pd_ap n e (k + 1) ∧ pd_ap n e (k + 1) ≤ n := by unfold pd_bd at h1; omega
    have ecy := cy_1 (b := b) w0
    refine br_f (by rw [ecy]; exact nI_nle (by omega) (by omega)) (pk_le (b + n) (b + pd_ap n e (k + 1)) (fun c => ?_) (fun c => ?_) rfl ecy)
    · rw [pd_ap_0 (j := pd_ap n e (k + 1)) (by omega)] at h79
      exact h79
    · rw [pd_ap_1 (j := pd_ap n e (k + 1)) (by omega) (by omega), ← hx _ (by omega) (by omega)] at h79
      refine ⟨by rw [ecy]; exact vp_in_nI (by omega) (by decide), ?_⟩
      rw [show nxt (pd_cy b (pd_ap n e (k + 1))).toNatClampNeg = nxt (b + pd_ap n e (k + 1)) from by rw [ecy, nI_clamp (by omega)]]
      exact h79
end
section
variable {yl yt yk : Int32} {tok len tx dos ag tc tp td kp : Nat → Int32} {b n : Nat} {t : Nat → Nat}
theorem py_19 (hb : b ≤ 48) (hn : n ≤ 12) (ht : ∀ i, i < n → tok (b + i) = nI (t i) ∧ pg_tv (t i)) (nxt0 : Nat → Int32) : ∀ c, c ≤ n → ∀ nxt : Nat → Int32, (∀ i, c ≤ i → i < n → nxt (b + i) = pd_cy b (pd_E n t (n - c) i)) → (∀ s, s < b ∨ b + n ≤ s → nxt s = nxt0 s) → ∃ nxt' : Nat → Int32, (∀ i, i < n → nxt' (b + i) = pd_cy b (pd_E n t n i)) ∧ (∀ s, s < b ∨ b + n ≤ s → nxt' s = nxt0 s) ∧ ∀ (post : SY → Prop) (m : Nat), c < m → post (yl, yt, yk, tok, len, nxt', tx, dos, ag, tc, tp, td, kp) → wY_survey_19 post (nI b) (nI (b + n)) yl yt yk m (nI (b + c) - 1) tok len nxt tx dos ag tc tp td kp := by
  intro c
  induction c with
  | zero =>
    intro _ nxt hx hy
    refine ⟨nxt, fun i hi => hx i (by omega) hi, hy, fun post m hm h => ?_⟩
    obtain ⟨m, rfl⟩ : ∃ m', m = m' + 1 := ⟨m - 1, by omega⟩
    exact br_t (pq_dn (by omega)) h
  | succ c ih =>
    intro hc nxt hx hy
    have hok := pd_E_ok (n := n) (t := t) (n - (c + 1)) (by omega)
    have ec : n - 1 - (n - (c + 1)) = c := by omega
    have en : n - c = n - (c + 1) + 1 := by omega
    obtain ⟨nxt', h1, h2, h3⟩ := ih (by omega) (upd nxt (b + c) (pd_cy b (pd_ms n t (pd_E n t (n - (c + 1))) c))) (fun i hi1 hi2 => by
      rw [en]
      by_cases e : i = c
      · subst e
        rw [pk_us]
        have := pd_E_s (n := n) (t := t) (j := n - (i + 1))
        rw [ec] at this
        rw [this]
      · rw [pk_un (by omega), pd_E_n (by omega)]
        exact hx i (by omega) hi2) (fun s hs => by rw [pk_un (by omega)]; exact hy s hs)
    refine ⟨nxt', h1, h2, fun post m hm h => ?_⟩
    obtain ⟨m, rfl⟩ : ∃ m', m = m' + 1 := ⟨m - 1, by omega⟩
    have h55 := py_55 (yl := yl) (yt := yt) (yk := yk) (post := post) (nxt := nxt) hb hn (k := c) (by omega) ht (fun i a b => (hok i (by omega) b).1) (fun i a b => hx i (by omega) b) (h3 post m (by omega) h)
    rw [show b + (c + 1) = b + c + 1 from rfl, nI_pred]
    refine br_f (nI_nlt (by omega) (by omega)) ⟨vp_in_nI (by omega) (by decide), nm_r (e' := nI (t c)) (by rw [nI_clamp (by omega)]; exact (ht c (by omega)).1) ?_⟩
    refine pk_le (b + n) (b + c + 1) (fun d => ?_) (fun d => ?_) rfl (nI_1 (b + c))
    · rw [pd_ap_0 (by omega)] at h55; exact h55
    · rw [pd_ap_1 (by omega) (by omega), ← hx (c + 1) (by omega) (by omega)] at h55
      rw [nI_1, nI_clamp (by omega)]
      exact ⟨vp_in_nI (by omega) (by decide), h55⟩
theorem py_sv {l : Nat} (hl : l < 5) (hn : n ≤ 12) (hlen : len l = nI n) (ht : ∀ i, i < n → tok (12 * l + i) = nI (t i) ∧ pg_tv (t i)) (nxt : Nat → Int32) : ∃ nxt' : Nat → Int32, (∀ i, i < n → nxt' (12 * l + i) = pd_cy (12 * l) (pd_E n t n i)) ∧ (∀ s, s < 12 * l ∨ 12 * l + n ≤ s → nxt' s = nxt s) ∧ ∀ (post : SY → Prop), post (yl, yt, yk, tok, len, nxt', tx, dos, ag, tc, tp, td, kp) → wpY_survey post (yl, yt, yk, tok, len, nxt, tx, dos, ag, tc, tp, td, kp) (nI l) := by
  obtain ⟨nxt', h1, h2, h3⟩ := py_19 (yl := yl) (yt := yt) (yk := yk) (len := len) (tx := tx) (dos := dos) (ag := ag) (tc := tc) (tp := tp) (td := td) (kp := kp) (b := 12 * l) (by omega) hn ht nxt n (Nat.le_refl n) nxt (fun i a b => by omega) (fun _ _ => rfl)
  refine ⟨nxt', h1, h2, fun post h => ?_⟩
  refine nm_r (e' := nI (12 * l)) (by rw [show (12 : Int32) = nI 12 from rfl, pk_mul]) ⟨vp_in_nI hl (by decide), nm_r (e' := nI (12 * l + n)) (by rw [nI_clamp (by omega), hlen, nI_add]) (nm_e ⟨n + 1, h3 post (n + 1) (by omega) h⟩)⟩
theorem py_65 {r : Nat} (hr : r < 4) (nxt tok0 : Nat → Int32) {z : Int32} : ∀ d k, k + d = 12 → ∀ tok : Nat → Int32, (∀ i, i < k → tok (12 * r + i) = tok0 (48 + i)) → (∀ s, s / 12 ≠ r → tok s = tok0 s) → ∃ tok' : Nat → Int32, (∀ i, i < 12 → tok' (12 * r + i) = tok0 (48 + i)) ∧ (∀ s, s / 12 ≠ r → tok' s = tok0 s) ∧ ∀ (post : Int32 → SY → Prop) (m : Nat), d < m → (wpY_survey (fun u => match u with | (yl, yt, yk, tok, len, nxt, tx, dos, ag, tc, tp, td, kp) => ∀ len' : Nat → Int32, len' = upd len 4 0 → (narrow .boolean (.int z) = .int z ∧ post z (yl, yt, yk, tok, len', nxt, tx, dos, ag, tc, tp, td, kp))) (yl, yt, yk, tok', upd len r (len 4), nxt, tx, dos, ag, tc, tp, td, kp) (nI r)) → wY_define_65 post (nI r) z yl yt yk m (nI k) tok len nxt tx dos ag tc tp td kp := by
  intro d
  induction d with
  | zero =>
    intro k hk tok h1 h2
    refine ⟨tok, fun i hi => h1 i (by omega), h2, fun post m hm h => ?_⟩
    obtain ⟨m, rfl⟩ : ∃ m', m = m' + 1 := ⟨m - 1, by omega⟩
    refine br_t (nI_le (a := 12) (by omega) (by omega)) ⟨vp_in_nI (by omega) (by decide), ?_⟩
    rw [nI_clamp (by omega)]
    exact nm_e h
  | succ d ih =>
    intro k hk tok h1 h2
    obtain ⟨tok', a1, a2, a3⟩ := ih (k + 1) (by omega) (upd tok (12 * r + k) (tok (48 + k))) (fun i hi => by
      by_cases e : i = k
      · subst e; rw [pk_us]; exact h2 _ (by omega)
      · rw [pk_un (by omega)]; exact h1 i (by omega)) (fun s hs => by rw [pk_un (by omega)]; exact h2 s hs)
    refine ⟨tok', a1, a2, fun post m hm h => ?_⟩
    obtain ⟨m, rfl⟩ : ∃ m', m = m' + 1 := ⟨m - 1, by omega⟩
    refine br_f (nI_ge (b := 12) (by omega) (by omega)) ?_
    rw [show (48 : Int32) + nI k = nI (48 + k) from by rw [show (48 : Int32) = nI 48 from rfl, nI_add], show (12 : Int32) * nI r + nI k = nI (12 * r + k) from by rw [show (12 : Int32) = nI 12 from rfl, pk_mul, nI_add], nI_clamp (by omega), nI_clamp (by omega)]
    exact ⟨vp_in_nI (by omega) (by decide), vp_in_nI (by omega) (by decide), nm_e (nm_r (nI_1 k) (a3 post m (by omega) h))⟩
end

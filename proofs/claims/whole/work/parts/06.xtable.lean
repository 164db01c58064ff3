theorem pq_pm (k : Nat) : nI k + (-1) = nI k - 1 := (Int32.sub_eq_add_neg _ _).symm
theorem pq_nb {x : Nat} (h : x ≤ 1) : narrow .boolean (.int (nI x)) = .int (nI x) := by
  have h2 : x = 0 ∨ x = 1 := by omega
  rcases h2 with rfl | rfl
  · rfl
  · rfl
theorem pg_en_0 {n : Nat} (h : pg_bd 16 0 n) (h0 : n ≠ 0) : ¬ pg_en n = -3 := by
  rcases pg_bd3 h with e | e | ⟨j, _, _, e⟩
  · exact absurd e h0
  · rw [e]; decide
  · rw [e, en_3]; exact en_n3 (by omega)
theorem pg_bdw {L p n : Nat} (hL : L ≤ 16) (h : pg_bd L p n) : pg_bd 16 0 n := by unfold pg_bd at *; omega
theorem pg_TX_set {oc : Nat → Int32} {T : Nat → Nat} {c v : Nat} (h : pg_TX oc T) : pg_TX (upd oc c (pg_en v)) (pu_set T c v) := by
  intro d hd
  by_cases e : d = c
  · subst e; rw [pk_us, pu_s]
  · rw [pk_un e, pu_n e]; exact h d hd
theorem pg_TX_0 {oc : Nat → Int32} {T : Nat → Nat} {c : Nat} (h : pg_TX oc T) (h0 : T c = 0) : pg_TX (upd oc c (pg_en 0)) T := by
  intro d hd
  by_cases e : d = c
  · subst e; rw [pk_us, h0]
  · rw [pk_un e]; exact h d hd
section
variable {pc ln nc sc : Int32} {pd pa tk af rs tx nr ns ne nd ss sp sd : Nat → Int32}
variable {gt gn gz : Nat → Nat} {L p : Nat} {T0 : Nat → Nat}
theorem px_18 (hw : pg_WF gt gn gz) (hL : L ≤ 16) (hln : ln = nI L) (hG : pg_GX gt gn gz tk af rs) (hp : p ≤ L) {r : Nat} (hr : r < 4) : ∀ k, k ≤ gz r → ∀ (oc : Nat → Int32) (T : Nat → Nat) (x : Nat), pg_Rn (pg_C gz L) (pg_PX gt gn gz (pg_m gt tx L)) (pg_BX gz L) (fun c => c % 17 = p) (fun c => c % 17 = p ∧ 12 * r + k ≤ c / 17) T0 T x → pg_TX oc T → ∃ (oc' : Nat → Int32) (T' : Nat → Nat) (x' : Nat), pg_Rn (pg_C gz L) (pg_PX gt gn gz (pg_m gt tx L)) (pg_BX gz L) (fun c => c % 17 = p) (fun c => c % 17 = p ∧ 12 * r ≤ c / 17) T0 T' x' ∧ pg_TX oc' T' ∧ ∀ (post : Int32 → SX → Prop) (J4 : Int32 → Int32 → (Nat → Int32) → (Nat → Int32) → (Nat → Int32) → (Nat → Int32) → (Nat → Int32) → (Nat → Int32) → (Nat → Int32) → (Nat → Int32) → (Nat → Int32) → (Nat → Int32) → (Nat → Int32) → (Nat → Int32) → (Nat → Int32) → (Nat → Int32) → Prop) (n : Nat), k < n → J4 (nI x') (nI r + (-1)) pd pa tk af rs tx oc' nr ns ne nd ss sp sd → wX_settleRound_18 post J4 (nI p) (nI r) pc ln nc sc n (nI x) (nI k - 1) pd pa tk af rs tx oc nr ns ne nd ss sp sd := by
  intro k
  induction k with
  | zero =>
    intro _ oc T x hR hT
    refine ⟨oc, T, x, hR, hT, fun post J4 n hn hJ => ?_⟩
    obtain ⟨m, rfl⟩ : ∃ m, n = m + 1 := ⟨n - 1, by omega⟩
    exact br_t (by decide) (nm_e hJ)
  | succ k ih =>
    intro hk oc T x hR hT
    have hz := hw.1 r hr
    have hlv : pg_lv gz (12 * r + k) := by
      have e : (12 * r + k) / 12 = r := by omega
      refine ⟨by omega, ?_⟩
      rw [e]; omega
    have hB := hR.1.1
    have hx1 := hR.2.2.2.2.2
    have hc := pg_C_i hlv hp hL
    have ec1 : (17 * (12 * r + k) + p) / 17 = 12 * r + k := by omega
    have ec2 : (17 * (12 * r + k) + p) % 17 = p := by omega
    have eP : pg_PX gt gn gz (pg_m gt tx L) T (17 * (12 * r + k) + p) = pg_F gt gn gz (pg_m gt tx L) T (12 * r + k) p := by
      unfold pg_PX; rw [ec1, ec2]
    have e12 : nI r * 12 + nI k = nI (12 * r + k) := by rw [show (12 : Int32) = nI 12 from rfl, pk_mul, nI_add, Nat.mul_comm]
    have e17 : nI (12 * r + k) * 17 + nI p = nI (17 * (12 * r + k) + p) := by rw [show (17 : Int32) = nI 17 from rfl, pk_mul, nI_add, Nat.mul_comm]
    by_cases h0 : T (17 * (12 * r + k) + p) = 0
    · by_cases hz0 : pg_F gt gn gz (pg_m gt tx L) T (12 * r + k) p = 0
      · have hR' : pg_Rn (pg_C gz L) (pg_PX gt gn gz (pg_m gt tx L)) (pg_BX gz L) (fun c => c % 17 = p) (fun c => c % 17 = p ∧ 12 * r + k ≤ c / 17) T0 T x := by
          refine pg_rn_zero (c := 17 * (12 * r + k) + p) hR (eP.trans hz0) fun d hd => ?_
          by_cases e : d = 17 * (12 * r + k) + p
          · exact Or.inr e
          · exact Or.inl ⟨hd.1, by omega⟩
        obtain ⟨oc', T', x', h1, h2, h3⟩ := ih (by omega) (upd oc (17 * (12 * r + k) + p) (pg_en 0)) T x hR' (pg_TX_0 hT h0)
        refine ⟨oc', T', x', h1, h2, fun post J4 n hn hJ => ?_⟩
        obtain ⟨m, rfl⟩ : ∃ m, n = m + 1 := ⟨n - 1, by omega⟩
        have h4 := h3 post J4 m (by omega) hJ
        rw [nI_pred]
        refine br_f (nI_pos (by omega)) (nm_r e12 (px_oA (12 * r + k) p rfl rfl hlv.1 (by omega) ?_))
        rw [hT _ (by omega), h0]
        refine br_t (by decide) (px_dO hw hL hln hG hB hT hlv hp ?_)
        rw [hz0, e17, nI_clamp (by omega)]
        refine ⟨vp_in_nI (by omega) (by decide), nm_e ?_⟩
        have h01 : x = 0 ∨ x = 1 := by omega
        rcases h01 with rfl | rfl
        · exact br_t (by decide) (br_t (by decide) (nm_r (pq_pm k) h4))
        · exact br_f (by decide) (nm_r (pq_pm k) h4)
      · have hR' := pg_rn_set (V' := fun c => c % 17 = p ∧ 12 * r + k ≤ c / 17) (pg_monoX hw hL) (pg_keepX hw hL pg_m_L) hR hc ec2 h0 (by rw [eP]; exact hz0)
        rw [eP] at hR'
        have hbd := pg_bdw hL (pg_F_bd (gm := pg_m gt tx L) hw hL pg_m_L hlv hp hB)
        obtain ⟨oc', T', x', h1, h2, h3⟩ := ih (by omega) _ _ 1 hR' (pg_TX_set hT)
        refine ⟨oc', T', x', h1, h2, fun post J4 n hn hJ => ?_⟩
        obtain ⟨m, rfl⟩ : ∃ m, n = m + 1 := ⟨n - 1, by omega⟩
        have h4 := h3 post J4 m (by omega) hJ
        rw [nI_pred]
        refine br_f (nI_pos (by omega)) (nm_r e12 (px_oA (12 * r + k) p rfl rfl hlv.1 (by omega) ?_))
        rw [hT _ (by omega), h0]
        refine br_t (by decide) (px_dO hw hL hln hG hB hT hlv hp ?_)
        rw [e17, nI_clamp (by omega)]
        refine ⟨vp_in_nI (by omega) (by decide), nm_e ?_⟩
        have h01 : x = 0 ∨ x = 1 := by omega
        rcases h01 with rfl | rfl
        · exact br_t (by decide) (br_f (pg_en_0 hbd hz0) (nm_r (pq_pm k) h4))
        · exact br_f (by decide) (nm_r (pq_pm k) h4)
    · have hR' : pg_Rn (pg_C gz L) (pg_PX gt gn gz (pg_m gt tx L)) (pg_BX gz L) (fun c => c % 17 = p) (fun c => c % 17 = p ∧ 12 * r + k ≤ c / 17) T0 T x := by
        refine pg_rn_skip hR fun d hd => ?_
        by_cases e : d = 17 * (12 * r + k) + p
        · rw [e]; exact Or.inr (Or.inl h0)
        · exact Or.inl ⟨hd.1, by omega⟩
      obtain ⟨oc', T', x', h1, h2, h3⟩ := ih (by omega) oc T x hR' hT
      refine ⟨oc', T', x', h1, h2, fun post J4 n hn hJ => ?_⟩
      obtain ⟨m, rfl⟩ : ∃ m, n = m + 1 := ⟨n - 1, by omega⟩
      have h4 := h3 post J4 m (by omega) hJ
      rw [nI_pred]
      refine br_f (nI_pos (by omega)) (nm_r e12 (px_oA (12 * r + k) p rfl rfl hlv.1 (by omega) ?_))
      rw [hT _ (by omega)]
      have hbd := pg_bdw hL (pg_bx hB hL hlv hp)
      exact br_f (pg_en_0 hbd h0) (nm_r (pq_pm k) h4)
theorem px_4 (hw : pg_WF gt gn gz) (hL : L ≤ 16) (hln : ln = nI L) (hG : pg_GX gt gn gz tk af rs) (hp : p ≤ L) : ∀ k, k ≤ 4 → ∀ (oc : Nat → Int32) (T : Nat → Nat) (x : Nat), pg_Rn (pg_C gz L) (pg_PX gt gn gz (pg_m gt tx L)) (pg_BX gz L) (fun c => c % 17 = p) (fun c => c % 17 = p ∧ 12 * k ≤ c / 17) T0 T x → pg_TX oc T → ∃ (oc' : Nat → Int32) (T' : Nat → Nat) (x' : Nat), pg_Rn (pg_C gz L) (pg_PX gt gn gz (pg_m gt tx L)) (pg_BX gz L) (fun c => c % 17 = p) (fun c => c % 17 = p) T0 T' x' ∧ pg_TX oc' T' ∧ ∀ (post : Int32 → SX → Prop) (n : Nat), k < n → post (nI x') (pc, ln, nc, sc, pd, pa, tk, af, rs, tx, oc', nr, ns, ne, nd, ss, sp, sd) → wX_settleRound_4 post (nI p) pc ln nc sc n (nI x) (nI k - 1) pd pa tk af rs tx oc nr ns ne nd ss sp sd := by
  intro k
  induction k with
  | zero =>
    intro _ oc T x hR hT
    refine ⟨oc, T, x, pg_rn_skip hR fun c hc => Or.inl ⟨hc, by omega⟩, hT, fun post n hn hJ => ?_⟩
    obtain ⟨m, rfl⟩ : ∃ m, n = m + 1 := ⟨n - 1, by omega⟩
    exact br_t (by decide) ⟨pq_nb hR.2.2.2.2.2, hJ⟩
  | succ k ih =>
    intro hk oc T x hR hT
    have hR1 : pg_Rn (pg_C gz L) (pg_PX gt gn gz (pg_m gt tx L)) (pg_BX gz L) (fun c => c % 17 = p) (fun c => c % 17 = p ∧ 12 * k + gz k ≤ c / 17) T0 T x := by
      refine pg_rn_skip hR fun c hc => ?_
      by_cases h : 12 * (k + 1) ≤ c / 17
      · exact Or.inl ⟨hc.1, h⟩
      · refine Or.inr (Or.inr fun h2 => ?_)
        have h3 := h2.1.2
        have hz := hw.1 k (by omega)
        have e : c / 17 / 12 = k := by omega
        rw [e] at h3
        omega
    obtain ⟨oc1, T1, x1, h1, h2, h3⟩ := px_18 (pc := pc) (nc := nc) (sc := sc) (pd := pd) (pa := pa) (nr := nr) (ns := ns) (ne := ne) (nd := nd) (ss := ss) (sp := sp) (sd := sd) hw hL hln hG hp (r := k) (by omega) (gz k) (Nat.le_refl _) oc T x hR1 hT
    obtain ⟨oc', T', x', h4, h5, h6⟩ := ih (by omega) oc1 T1 x1 h1 h2
    refine ⟨oc', T', x', h4, h5, fun post n hn hJ => ?_⟩
    obtain ⟨m, rfl⟩ : ∃ m, n = m + 1 := ⟨n - 1, by omega⟩
    rw [nI_pred]
    refine br_f (nI_pos (by omega)) ⟨vp_in_nI (by omega) (by decide), nm_r (e' := nI (gz k) - 1) (by rw [nI_clamp (by omega), hG.2 k (by omega)]) ⟨gz k + 1, h3 post _ _ (by omega) ?_⟩⟩
    rw [pq_pm]
    exact h6 post m (by omega) hJ
theorem px_sR (hw : pg_WF gt gn gz) (hL : L ≤ 16) (hln : ln = nI L) (hG : pg_GX gt gn gz tk af rs) (hp : p ≤ L) (oc : Nat → Int32) (T : Nat → Nat) (hg : pg_Good (pg_C gz L) (pg_PX gt gn gz (pg_m gt tx L)) (pg_BX gz L) T) (hT : pg_TX oc T) : ∃ (oc' : Nat → Int32) (T' : Nat → Nat) (x' : Nat), pg_Rn (pg_C gz L) (pg_PX gt gn gz (pg_m gt tx L)) (pg_BX gz L) (fun c => c % 17 = p) (fun c => c % 17 = p) T T' x' ∧ pg_TX oc' T' ∧ ∀ (post : Int32 → SX → Prop), post (nI x') (pc, ln, nc, sc, pd, pa, tk, af, rs, tx, oc', nr, ns, ne, nd, ss, sp, sd) → wpX_settleRound post (pc, ln, nc, sc, pd, pa, tk, af, rs, tx, oc, nr, ns, ne, nd, ss, sp, sd) (nI p) := by
  obtain ⟨oc', T', x', h1, h2, h3⟩ := px_4 (pc := pc) (nc := nc) (sc := sc) (pd := pd) (pa := pa) (nr := nr) (ns := ns) (ne := ne) (nd := nd) (ss := ss) (sp := sp) (sd := sd) (T0 := T) hw hL hln hG hp 4 (Nat.le_refl 4) oc T 0 (pg_rn_0 hg fun c hc h => by have := h.1.1; omega) hT
  exact ⟨oc', T', x', h1, h2, fun post hp => ⟨5, h3 post 5 (by omega) hp⟩⟩
theorem px_36 (hw : pg_WF gt gn gz) (hL : L ≤ 16) (hln : ln = nI L) (hG : pg_GX gt gn gz tk af rs) (hp : p ≤ L) : ∀ m (oc : Nat → Int32) (T : Nat → Nat) (i : Nat), pg_Good (pg_C gz L) (pg_PX gt gn gz (pg_m gt tx L)) (pg_BX gz L) T → pg_TX oc T → pg_cn (fun s => T (17 * s + p)) 48 ≤ m → pg_cn (fun s => T (17 * s + p)) 48 + i ≤ 48 → ∃ (oc' : Nat → Int32) (T' : Nat → Nat), pg_Good (pg_C gz L) (pg_PX gt gn gz (pg_m gt tx L)) (pg_BX gz L) T' ∧ pg_TX oc' T' ∧ (∀ c, ¬ c % 17 = p → T' c = T c) ∧ (∀ c, c % 17 = p → pg_C gz L c → T' c = 0 → pg_PX gt gn gz (pg_m gt tx L) T' c = 0) ∧ ∀ (post : SX → Prop) (J28 : Int32 → Int32 → Int32 → Int32 → Int32 → (Nat → Int32) → (Nat → Int32) → (Nat → Int32) → (Nat → Int32) → (Nat → Int32) → (Nat → Int32) → (Nat → Int32) → (Nat → Int32) → (Nat → Int32) → (Nat → Int32) → (Nat → Int32) → (Nat → Int32) → (Nat → Int32) → (Nat → Int32) → Prop) (n : Nat), m + 1 < n → J28 (nI p + (-1)) pc ln nc sc pd pa tk af rs tx oc' nr ns ne nd ss sp sd → wX_settleOutcomes_36 post J28 (nI p) n 1 (nI i) pc ln nc sc pd pa tk af rs tx oc nr ns ne nd ss sp sd := by
  intro m
  induction m with
  | zero =>
    intro oc T i hg hT h0 hi
    obtain ⟨oc1, T1, x1, h1, h2, h3⟩ := px_sR (pc := pc) (nc := nc) (sc := sc) (pd := pd) (pa := pa) (nr := nr) (ns := ns) (ne := ne) (nd := nd) (ss := ss) (sp := sp) (sd := sd) hw hL hln hG hp oc T hg hT
    obtain ⟨r1, r2, r3, r4, r5, r6⟩ := h1
    by_cases hx : x1 = 0
    · subst hx
      obtain ⟨e, r7⟩ := r4 rfl
      refine ⟨oc1, T1, r1, h2, r3, fun c hc => by rw [e]; exact r7 c hc, fun post J28 n hn hJ => ?_⟩
      obtain ⟨m, rfl⟩ : ∃ m, n = m + 1 + 1 := ⟨n - 2, by omega⟩
      exact br_f (by decide) (br_f (nI_nlt (b := 48) (a := 48) (by omega) (by omega) |> fun _ => nI_nlt (a := 48) (b := i) (by omega) (by omega)) (h3 _ (nm_r (nI_1 i) (br_t (by decide) (nm_e hJ)))))
    · obtain ⟨c, q1, q2, q3, q4⟩ := r5 hx
      have hlt := pg_cn_lt (f := fun s => T (17 * s + p)) (f' := fun s => T1 (17 * s + p)) (k := c / 17) (by show T (17 * (c / 17) + p) = 0; rw [← q2, Nat.div_add_mod]; exact q3) (by show T1 (17 * (c / 17) + p) ≠ 0; rw [← q2, Nat.div_add_mod]; exact q4) 48 q1.1.1 (fun k hk h => by
        show T (17 * k + p) = 0
        by_cases e : T (17 * k + p) = 0
        · exact e
        · rw [← r2 _ e]; exact h)
      omega
  | succ m ih =>
    intro oc T i hg hT h0 hi
    obtain ⟨oc1, T1, x1, h1, h2, h3⟩ := px_sR (pc := pc) (nc := nc) (sc := sc) (pd := pd) (pa := pa) (nr := nr) (ns := ns) (ne := ne) (nd := nd) (ss := ss) (sp := sp) (sd := sd) hw hL hln hG hp oc T hg hT
    obtain ⟨r1, r2, r3, r4, r5, r6⟩ := h1
    by_cases hx : x1 = 0
    · subst hx
      obtain ⟨e, r7⟩ := r4 rfl
      refine ⟨oc1, T1, r1, h2, r3, fun c hc => by rw [e]; exact r7 c hc, fun post J28 n hn hJ => ?_⟩
      obtain ⟨m, rfl⟩ : ∃ m, n = m + 1 + 1 := ⟨n - 2, by omega⟩
      exact br_f (by decide) (br_f (nI_nlt (a := 48) (b := i) (by omega) (by omega)) (h3 _ (nm_r (nI_1 i) (br_t (by decide) (nm_e hJ)))))
    · obtain ⟨c, q1, q2, q3, q4⟩ := r5 hx
      have hlt := pg_cn_lt (f := fun s => T (17 * s + p)) (f' := fun s => T1 (17 * s + p)) (k := c / 17) (by show T (17 * (c / 17) + p) = 0; rw [← q2, Nat.div_add_mod]; exact q3) (by show T1 (17 * (c / 17) + p) ≠ 0; rw [← q2, Nat.div_add_mod]; exact q4) 48 q1.1.1 (fun k hk h => by
        show T (17 * k + p) = 0
        by_cases e : T (17 * k + p) = 0
        · exact e
        · rw [← r2 _ e]; exact h)
      have hx1 : x1 = 1 := by omega
      subst hx1
      obtain ⟨oc', T', g1, g2, g3, g4, g5⟩ := ih oc1 T1 (i + 1) r1 h2 (by omega) (by omega)
      refine ⟨oc', T', g1, g2, fun c hc => (g3 c hc).trans (r3 c hc), g4, fun post J28 n hn hJ => ?_⟩
      obtain ⟨n, rfl⟩ : ∃ n', n = n' + 1 := ⟨n - 1, by omega⟩
      exact br_f (by decide) (br_f (nI_nlt (a := 48) (b := i) (by omega) (by omega)) (h3 _ (nm_r (nI_1 i) (g5 post J28 n (by omega) hJ))))
theorem px_28 (hw : pg_WF gt gn gz) (hL : L ≤ 16) (hln : ln = nI L) (hG : pg_GX gt gn gz tk af rs) : ∀ k, k ≤ L + 1 → ∀ (oc : Nat → Int32) (T : Nat → Nat), pg_Good (pg_C gz L) (pg_PX gt gn gz (pg_m gt tx L)) (pg_BX gz L) T → pg_TX oc T → (∀ c, k ≤ c % 17 → pg_C gz L c → T c = 0 → pg_PX gt gn gz (pg_m gt tx L) T c = 0) → ∃ (oc' : Nat → Int32) (T' : Nat → Nat), pg_Good (pg_C gz L) (pg_PX gt gn gz (pg_m gt tx L)) (pg_BX gz L) T' ∧ pg_TX oc' T' ∧ (∀ c, pg_C gz L c → T' c = 0 → pg_PX gt gn gz (pg_m gt tx L) T' c = 0) ∧ ∀ (post : SX → Prop) (n : Nat), k < n → post (pc, ln, nc, sc, pd, pa, tk, af, rs, tx, oc', nr, ns, ne, nd, ss, sp, sd) → wX_settleOutcomes_28 post n (nI k - 1) pc ln nc sc pd pa tk af rs tx oc nr ns ne nd ss sp sd := by
  intro k
  induction k with
  | zero =>
    intro _ oc T hg hT hc
    refine ⟨oc, T, hg, hT, fun c => hc c (by omega), fun post n hn hJ => ?_⟩
    obtain ⟨m, rfl⟩ : ∃ m, n = m + 1 := ⟨n - 1, by omega⟩
    exact br_t (by decide) hJ
  | succ k ih =>
    intro hk oc T hg hT hc
    have hcn := pg_cn_le (fun s => T (17 * s + k)) 48
    obtain ⟨oc1, T1, h1, h2, h3, h4, h5⟩ := px_36 (pc := pc) (nc := nc) (sc := sc) (pd := pd) (pa := pa) (nr := nr) (ns := ns) (ne := ne) (nd := nd) (ss := ss) (sp := sp) (sd := sd) hw hL hln hG (p := k) (by omega) 48 oc T 0 hg hT hcn hcn
    have hc1 : ∀ c, k ≤ c % 17 → pg_C gz L c → T1 c = 0 → pg_PX gt gn gz (pg_m gt tx L) T1 c = 0 := by
      intro c hkc hC h0
      by_cases e : c % 17 = k
      · exact h4 c e hC h0
      · rw [h3 c e] at h0
        rw [← hc c (by omega) hC h0]
        refine pg_F_loc hw hL hC.1 hC.2 h1.1 hg.1 fun s' q a b c' => h3 _ ?_
        omega
    obtain ⟨oc', T', g1, g2, g3, g4⟩ := ih (by omega) oc1 T1 h1 h2 hc1
    refine ⟨oc', T', g1, g2, g3, fun post n hn hJ => ?_⟩
    obtain ⟨m, rfl⟩ : ∃ m, n = m + 1 := ⟨n - 1, by omega⟩
    rw [nI_pred]
    refine br_f (nI_pos (by omega)) ⟨50, h5 post _ 50 (by omega) ?_⟩
    rw [pq_pm]
    exact g4 post m (by omega) hJ
theorem px_2 : ∀ d i, i + d = 816 → ∀ (oc : Nat → Int32), (∀ c, c < i → oc c = -3) → ∃ oc' : Nat → Int32, (∀ c, c < 816 → oc' c = -3) ∧ ∀ (post : SX → Prop) (n : Nat), d < n → (∃ n28, wX_settleOutcomes_28 post n28 ln pc ln nc sc pd pa tk af rs tx oc' nr ns ne nd ss sp sd) → wX_settleOutcomes_2 post pc ln nc sc n (nI i) pd pa tk af rs tx oc nr ns ne nd ss sp sd := by
  intro d
  induction d with
  | zero =>
    intro i hi oc h
    refine ⟨oc, fun c hc => h c (by omega), fun post n hn hJ => ?_⟩
    obtain ⟨m, rfl⟩ : ∃ m, n = m + 1 := ⟨n - 1, by omega⟩
    exact br_t (nI_le (a := 816) (by omega) (by omega)) hJ
  | succ d ih =>
    intro i hi oc h
    obtain ⟨oc', h1, h2⟩ := ih (i + 1) (by omega) (upd oc i (-3)) (fun c hc => by
      by_cases e : c = i
      · subst e; exact pk_us
      · rw [pk_un e]; exact h c (by omega))
    refine ⟨oc', h1, fun post n hn hJ => ?_⟩
    obtain ⟨m, rfl⟩ : ∃ m, n = m + 1 := ⟨n - 1, by omega⟩
    refine br_f (nI_ge (b := 816) (by omega) (by omega)) ⟨vp_in_nI (by omega) (by decide), ?_⟩
    rw [nI_clamp (by omega)]
    exact nm_e (nm_r (nI_1 i) (h2 post m (by omega) hJ))
theorem px_settle (hw : pg_WF gt gn gz) (hL : L ≤ 16) (hln : ln = nI L) (hG : pg_GX gt gn gz tk af rs) (oc : Nat → Int32) : ∃ (oc' : Nat → Int32) (T' : Nat → Nat), pg_Good (pg_C gz L) (pg_PX gt gn gz (pg_m gt tx L)) (pg_BX gz L) T' ∧ pg_TX oc' T' ∧ (∀ c, pg_C gz L c → T' c = pg_PX gt gn gz (pg_m gt tx L) T' c) ∧ ∀ (post : SX → Prop), post (pc, ln, nc, sc, pd, pa, tk, af, rs, tx, oc', nr, ns, ne, nd, ss, sp, sd) → wpX_settleOutcomes post (pc, ln, nc, sc, pd, pa, tk, af, rs, tx, oc, nr, ns, ne, nd, ss, sp, sd) := by
  obtain ⟨oc1, h1, h2⟩ := px_2 (pc := pc) (ln := ln) (nc := nc) (sc := sc) (pd := pd) (pa := pa) (tk := tk) (af := af) (rs := rs) (tx := tx) (nr := nr) (ns := ns) (ne := ne) (nd := nd) (ss := ss) (sp := sp) (sd := sd) 816 0 (by omega) oc (fun c hc => absurd hc (by omega))
  have hg : pg_Good (pg_C gz L) (pg_PX gt gn gz (pg_m gt tx L)) (pg_BX gz L) (fun _ => 0) := pg_zero (fun c _ => Or.inl rfl)
  obtain ⟨oc', T', g1, g2, g3, g4⟩ := px_28 (pc := pc) (nc := nc) (sc := sc) (pd := pd) (pa := pa) (nr := nr) (ns := ns) (ne := ne) (nd := nd) (ss := ss) (sp := sp) (sd := sd) hw hL hln hG (L + 1) (Nat.le_refl _) oc1 (fun _ => 0) hg (fun c hc => h1 c hc) (fun c h3 h4 => absurd h4.2 (by omega))
  refine ⟨oc', T', g1, g2, pg_fix g1 g3, fun post hJ => ⟨817, h2 post 817 (by omega) ⟨L + 2, ?_⟩⟩⟩
  have := g4 post (L + 2) (by omega) hJ
  rw [nI_pred] at this
  rw [hln]
  rw [hln] at this
  exact this
end

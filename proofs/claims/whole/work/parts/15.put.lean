def pv_ok (x : Int32) : Prop := x = 0 ∨ ∃ t, pg_tv t ∧ x = nI t
theorem pv_N {t : Nat} (ht : t < 2 ^ 31) : pv_ok (nI t) ↔ t = 0 ∨ pg_tv t := by
  constructor
  · rintro (h | ⟨s, hs, h⟩)
    · rw [← nI_0, nI_eq ht (by omega)] at h; exact Or.inl h
    · have h2 : s < 2 ^ 31 := by unfold pg_tv at hs; omega
      rw [nI_eq ht h2] at h; rw [h]; exact Or.inr hs
  · rintro (h | h)
    · rw [h]; exact Or.inl rfl
    · exact Or.inr ⟨t, h, rfl⟩
theorem pv_neg {x : Int32} (h : x < 0) : ¬ pv_ok x := by
  rintro (h2 | ⟨s, hs, h2⟩)
  · rw [h2] at h; exact absurd h (by decide)
  · rw [h2] at h; exact nI_pos (by unfold pg_tv at hs; omega) h
theorem px_mp {post : Int32 → Prop} {x : Int32} (h1 : pv_ok x → post 1) (h0 : ¬ pv_ok x → post 0) : wpX_mayBePut post x := by
  by_cases hx : x < 0
  · have h0 := h0 (pv_neg hx)
    refine br_f (fun e => absurd (e ▸ hx) (by decide)) (br_t (Int32.lt_of_lt_of_le hx (by decide)) (br_t rfl (br_t (Int32.lt_of_lt_of_le hx (by decide)) (br_t rfl (br_t (Int32.lt_of_lt_of_le hx (by decide)) (br_t (Int32.lt_of_lt_of_le hx (by decide)) h0))))))
  · obtain ⟨t, ht, rfl⟩ := nI_of hx
    rw [pv_N ht] at h1 h0
    unfold pg_tv at h1 h0
    have k28 : ¬ (t = 0 ∨ (97 ≤ t ∧ t ≤ 122) ∨ (20 ≤ t ∧ t ≤ 23) ∨ (1 ≤ t ∧ t ≤ 3)) → wX_mayBePut_28 post (nI t) := fun hn =>
      pk_lt t 10 (fun a => h0 (by omega)) (fun a => pk_lt 16 t (fun b => h0 (by omega)) (fun b => h1 (by omega)))
    have kr : ¬ (t = 0 ∨ (97 ≤ t ∧ t ≤ 122) ∨ (20 ≤ t ∧ t ≤ 23)) → ((nI t < 1 → wX_mayBePut_28 post (nI t)) ∧ (¬ nI t < 1 → ((nI t ≤ 3 → post 1) ∧ (¬ nI t ≤ 3 → wX_mayBePut_28 post (nI t))))) := fun hn =>
      pk_lt t 1 (fun a => k28 (by omega)) (fun a => pk_le t 3 (fun b => h1 (by omega)) (fun b => k28 (by omega)))
    refine pk_eq t 0 (fun a => h1 (by omega)) (fun a => ?_)
    refine pk_lt t 97 (fun b => br_t rfl ?_) (fun b => pk_lt 122 t (fun c => br_t rfl ?_) (fun c => br_f (by decide) (h1 (by omega))))
    · exact pk_lt t 20 (fun c => br_t rfl (kr (by omega))) (fun c => pk_le 24 t (fun d => br_t rfl (kr (by omega))) (fun d => br_f (by decide) (h1 (by omega))))
    · exact pk_lt t 20 (fun c => br_t rfl (kr (by omega))) (fun c => pk_le 24 t (fun d => br_t rfl (kr (by omega))) (fun d => br_f (by decide) (h1 (by omega))))
theorem py_vd {post : Int32 → Prop} {x : Int32} (h1 : pv_ok x → post 1) (h0 : ¬ pv_ok x → post 0) : wpY_valid post x := by
  by_cases hx : x < 0
  · have h0 := h0 (pv_neg hx)
    exact br_t hx (br_t (Int32.lt_of_lt_of_le hx (by decide)) (br_t (Int32.lt_of_lt_of_le hx (by decide)) (br_t (Int32.lt_of_lt_of_le hx (by decide)) (br_t rfl h0))))
  · obtain ⟨t, ht, rfl⟩ := nI_of hx
    rw [pv_N ht] at h1 h0
    unfold pg_tv at h1 h0
    have k33 : ¬ (t ≤ 3 ∨ (10 ≤ t ∧ t ≤ 16) ∨ (20 ≤ t ∧ t ≤ 23)) → wY_valid_33 post (nI t) := fun hn =>
      pk_lt t 97 (fun a => br_t rfl (h0 (by omega))) (fun a => pk_lt 122 t (fun b => br_t rfl (h0 (by omega))) (fun b => br_f (by decide) (h1 (by omega))))
    have k21 : ¬ (t ≤ 3 ∨ (10 ≤ t ∧ t ≤ 16)) → wY_valid_21 post (nI t) := fun hn =>
      pk_lt t 20 (fun a => k33 (by omega)) (fun a => pk_le t 23 (fun b => h1 (by omega)) (fun b => k33 (by omega)))
    have k9 : ¬ (t ≤ 3) → wY_valid_9 post (nI t) := fun hn =>
      pk_lt t 10 (fun a => k21 (by omega)) (fun a => pk_le t 16 (fun b => h1 (by omega)) (fun b => k21 (by omega)))
    exact br_f hx (pk_le t 3 (fun b => h1 (by omega)) (fun b => k9 (by omega)))
def pv_c (x : Int32) : Nat := if x = 0 then 0 else 1
theorem pv_c0 {x : Int32} (h : x = 0) : pv_c x = 0 := if_pos h
theorem pv_c1 {x : Int32} (h : ¬ x = 0) : pv_c x = 1 := if_neg h
theorem pv_c2 (x : Int32) : pv_c x ≤ 1 := by unfold pv_c; split <;> omega
section
variable {pc ln nc sc : Int32} {pd pa tk af rs tx oc nr ns ne nd ss sp sd : Nat → Int32} {a b c d : Int32}
theorem px_cnt {post : Int32 → SX → Prop} (H : ∀ z0 z1 : Int32, z1 + z0 = nI (pv_c a + pv_c b + pv_c c + pv_c d) → wX_put_70 post a b c d z0 z1 pc ln nc sc pd pa tk af rs tx oc nr ns ne nd ss sp sd) : (a = 0 → wX_put_40 post a b c d 0 pc ln nc sc pd pa tk af rs tx oc nr ns ne nd ss sp sd) ∧ (¬ a = 0 → wX_put_40 post a b c d 1 pc ln nc sc pd pa tk af rs tx oc nr ns ne nd ss sp sd) := by
  refine br_c (fun ha => br_c (fun hb => br_c (fun hc => br_c (fun hd => ?_) (fun hd => ?_)) (fun hc => br_c (fun hd => ?_) (fun hd => ?_))) (fun hb => br_c (fun hc => br_c (fun hd => ?_) (fun hd => ?_)) (fun hc => br_c (fun hd => ?_) (fun hd => ?_)))) (fun ha => br_c (fun hb => br_c (fun hc => br_c (fun hd => ?_) (fun hd => ?_)) (fun hc => br_c (fun hd => ?_) (fun hd => ?_))) (fun hb => br_c (fun hc => br_c (fun hd => ?_) (fun hd => ?_)) (fun hc => br_c (fun hd => ?_) (fun hd => ?_))))
  all_goals
    refine H _ _ ?_
    first
    | rw [pv_c0 ha] | rw [pv_c1 ha]
    first
    | rw [pv_c0 hb] | rw [pv_c1 hb]
    first
    | rw [pv_c0 hc] | rw [pv_c1 hc]
    first
    | rw [pv_c0 hd] | rw [pv_c1 hd]
    rfl
end
section
variable {yl yt yk : Int32} {tok len nxt tx dos ag tc tp td kp : Nat → Int32} {a b c d : Int32}
theorem py_cnt {post : Int32 → SY → Prop} (H : ∀ z0 z1 : Int32, z1 + z0 = nI (pv_c a + pv_c b + pv_c c + pv_c d) → wY_put_39 post a b c d z0 z1 yl yt yk tok len nxt tx dos ag tc tp td kp) : wpY_put post (yl, yt, yk, tok, len, nxt, tx, dos, ag, tc, tp, td, kp) a b c d := by
  refine br_c (fun ha => br_c (fun hb => br_c (fun hc => br_c (fun hd => ?_) (fun hd => ?_)) (fun hc => br_c (fun hd => ?_) (fun hd => ?_))) (fun hb => br_c (fun hc => br_c (fun hd => ?_) (fun hd => ?_)) (fun hc => br_c (fun hd => ?_) (fun hd => ?_)))) (fun ha => br_c (fun hb => br_c (fun hc => br_c (fun hd => ?_) (fun hd => ?_)) (fun hc => br_c (fun hd => ?_) (fun hd => ?_))) (fun hb => br_c (fun hc => br_c (fun hd => ?_) (fun hd => ?_)) (fun hc => br_c (fun hd => ?_) (fun hd => ?_))))
  all_goals
    refine H _ _ ?_
    first
    | rw [pv_c0 ha] | rw [pv_c1 ha]
    first
    | rw [pv_c0 hb] | rw [pv_c1 hb]
    first
    | rw [pv_c0 hc] | rw [pv_c1 hc]
    first
    | rw [pv_c0 hd] | rw [pv_c1 hd]
    rfl
end
/-- the list, and what of tok and len is not of the list -/
def pv_A (q : Nat) (pd tok len tok0 len0 : Nat → Int32) : Prop := pg_P q pd tok len ∧ (∀ s, s < 48 → tok s = tok0 s) ∧ ∀ r, r < 4 → len r = len0 r
section
variable {ln nc sc : Int32} {pa tk af rs tx oc nr ns ne nd ss sp sd : Nat → Int32} {yl yt yk : Int32} {nxt dos ag tc tp td kp tok0 len0 : Nat → Int32}
theorem pv_add {q : Nat} {pd tok len : Nat → Int32} {x : Int32} (hA : pv_A q pd tok len tok0 len0) (hv : pv_ok x) (hq : q + pv_c x ≤ 12) : ∃ pd' tok' len' : Nat → Int32, pv_A (q + pv_c x) pd' tok' len' tok0 len0 ∧ (∀ post : SX → Prop, post (nI (q + pv_c x), ln, nc, sc, pd', pa, tk, af, rs, tx, oc, nr, ns, ne, nd, ss, sp, sd) → wpX_addPending post (nI q, ln, nc, sc, pd, pa, tk, af, rs, tx, oc, nr, ns, ne, nd, ss, sp, sd) x) ∧ (∀ post : SY → Prop, post (yl, yt, yk, tok', len', nxt, tx, dos, ag, tc, tp, td, kp) → wpY_add post (yl, yt, yk, tok, len, nxt, tx, dos, ag, tc, tp, td, kp) x) := by
  obtain ⟨⟨h1, h2⟩, h3, h4⟩ := hA
  by_cases hx : x = 0
  · rw [pv_c0 hx]
    exact ⟨pd, tok, len, ⟨⟨h1, h2⟩, h3, h4⟩, fun post h => br_t hx h, fun post h => br_t hx h⟩
  · rw [pv_c1 hx] at hq ⊢
    obtain ⟨t, ht, ex⟩ : ∃ t, pg_tv t ∧ x = nI t := by
      rcases hv with h | h
      · exact absurd h hx
      · exact h
    refine ⟨upd pd q x, upd tok (48 + q) x, upd len 4 (nI (q + 1)), ⟨⟨pk_us, fun k hk => ?_⟩, fun s hs => ?_, fun r hr => ?_⟩, fun post h => ?_, fun post h => ?_⟩
    · by_cases e : k = q
      · subst e; exact ⟨t, ht, by rw [pk_us]; exact ex, by rw [pk_us]; exact ex⟩
      · rw [pk_un e, pk_un (by omega)]; exact h2 k (by omega)
    · rw [pk_un (by omega)]; exact h3 s hs
    · rw [pk_un (by omega)]; exact h4 r hr
    · refine br_f hx (br_f (nI_ge (b := 12) (by omega) (by omega)) ⟨vp_in_nI (by omega) (by decide), ?_⟩)
      rw [nI_clamp (by omega)]
      exact nm_e (nm_r (nI_1 q) h)
    · refine br_f hx ?_
      rw [h1, show (48 : Int32) + nI q = nI (48 + q) from by rw [show (48 : Int32) = nI 48 from rfl, nI_add], nI_clamp (by omega)]
      exact ⟨vp_in_nI (by omega) (by decide), nm_e (nm_r (by rw [nI_1]) h)⟩
end
theorem i_vc_put {k : Nat} {u : SX} {v : SY} (I : i_Rel k u v) (hk : k + 5 ≤ 2560) (v1 : Int32) (v2 : Int32) (v3 : Int32) (v4 : Int32) : wpX_put (fun r u' => wpY_put (fun r' v' => r' = r ∧ i_Rel (k + 5) u' v') v v1 v2 v3 v4) u v1 v2 v3 v4 := by
  have I2 := i_up I
  obtain ⟨_, q, L, n, gt, gn, gz, sc, yt, pd, pa, tk, af, rs, tx, oc, nr, ns, ne, nd, ss, sp, sd, tok, len, nxt, dos, ag, tc, tp, td, kp, rfl, rfl, hI⟩ := I
  obtain ⟨hq, hL, h3, hw, hGX, hGY, hX, h8, h9⟩ := hI
  unfold wpX_put
  by_cases a1 : pv_ok v1
  case neg =>
    refine px_mp (fun h => absurd h a1) (fun _ => br_t rfl (py_cnt fun z0 z1 hz => nm_r hz ?_))
    exact py_vd (fun h => absurd h a1) (fun _ => br_t rfl ⟨rfl, I2⟩)
  by_cases a2 : pv_ok v2
  case neg =>
    refine px_mp (fun _ => br_f (by decide) (px_mp (fun h => absurd h a2) (fun _ => br_t rfl (py_cnt fun z0 z1 hz => nm_r hz ?_)))) (fun h => absurd a1 h)
    exact py_vd (fun _ => br_f (by decide) (py_vd (fun h => absurd h a2) (fun _ => br_t rfl ⟨rfl, I2⟩))) (fun h => absurd a1 h)
  by_cases a3 : pv_ok v3
  case neg =>
    refine px_mp (fun _ => br_f (by decide) (px_mp (fun _ => br_f (by decide) (px_mp (fun h => absurd h a3) (fun _ => br_t rfl (py_cnt fun z0 z1 hz => nm_r hz ?_)))) (fun h => absurd a2 h))) (fun h => absurd a1 h)
    exact py_vd (fun _ => br_f (by decide) (py_vd (fun _ => br_f (by decide) (py_vd (fun h => absurd h a3) (fun _ => br_t rfl ⟨rfl, I2⟩))) (fun h => absurd a2 h))) (fun h => absurd a1 h)
  by_cases a4 : pv_ok v4
  case neg =>
    refine px_mp (fun _ => br_f (by decide) (px_mp (fun _ => br_f (by decide) (px_mp (fun _ => br_f (by decide) (px_mp (fun h => absurd h a4) (fun _ => br_t rfl (py_cnt fun z0 z1 hz => nm_r hz ?_)))) (fun h => absurd a3 h))) (fun h => absurd a2 h))) (fun h => absurd a1 h)
    exact py_vd (fun _ => br_f (by decide) (py_vd (fun _ => br_f (by decide) (py_vd (fun _ => br_f (by decide) (py_vd (fun h => absurd h a4) (fun _ => br_t rfl ⟨rfl, I2⟩))) (fun h => absurd a3 h))) (fun h => absurd a2 h))) (fun h => absurd a1 h)
  refine px_mp (fun _ => br_f (by decide) (px_mp (fun _ => br_f (by decide) (px_mp (fun _ => br_f (by decide) (px_mp (fun _ => br_f (by decide) (px_cnt fun z0 z1 hz => nm_r hz ?_)) (fun h => absurd a4 h))) (fun h => absurd a3 h))) (fun h => absurd a2 h))) (fun h => absurd a1 h)
  have c1 := pv_c2 v1
  have c2 := pv_c2 v2
  have c3 := pv_c2 v3
  have c4 := pv_c2 v4
  have hlen := h9.1
  have e1 : nI q + nI (pv_c v1 + pv_c v2 + pv_c v3 + pv_c v4) = nI (q + (pv_c v1 + pv_c v2 + pv_c v3 + pv_c v4)) := nI_add _ _
  by_cases hc : q + (pv_c v1 + pv_c v2 + pv_c v3 + pv_c v4) ≤ 12
  · have hA : pv_A q pd tok len tok len := ⟨h9, fun _ _ => rfl, fun _ _ => rfl⟩
    obtain ⟨pd1, tok1, len1, A1, X1, Y1⟩ := pv_add (ln := nI L) (nc := nI n) (sc := sc) (pa := pa) (tk := tk) (af := af) (rs := rs) (tx := tx) (oc := oc) (nr := nr) (ns := ns) (ne := ne) (nd := nd) (ss := ss) (sp := sp) (sd := sd) (yl := nI L) (yt := yt) (yk := nI n) (nxt := nxt) (dos := dos) (ag := ag) (tc := tc) (tp := tp) (td := td) (kp := kp) hA a1 (by omega)
    obtain ⟨pd2, tok2, len2, A2, X2, Y2⟩ := pv_add (ln := nI L) (nc := nI n) (sc := sc) (pa := pa) (tk := tk) (af := af) (rs := rs) (tx := tx) (oc := oc) (nr := nr) (ns := ns) (ne := ne) (nd := nd) (ss := ss) (sp := sp) (sd := sd) (yl := nI L) (yt := yt) (yk := nI n) (nxt := nxt) (dos := dos) (ag := ag) (tc := tc) (tp := tp) (td := td) (kp := kp) A1 a2 (by omega)
    obtain ⟨pd3, tok3, len3, A3, X3, Y3⟩ := pv_add (ln := nI L) (nc := nI n) (sc := sc) (pa := pa) (tk := tk) (af := af) (rs := rs) (tx := tx) (oc := oc) (nr := nr) (ns := ns) (ne := ne) (nd := nd) (ss := ss) (sp := sp) (sd := sd) (yl := nI L) (yt := yt) (yk := nI n) (nxt := nxt) (dos := dos) (ag := ag) (tc := tc) (tp := tp) (td := td) (kp := kp) A2 a3 (by omega)
    obtain ⟨pd4, tok4, len4, A4, X4, Y4⟩ := pv_add (ln := nI L) (nc := nI n) (sc := sc) (pa := pa) (tk := tk) (af := af) (rs := rs) (tx := tx) (oc := oc) (nr := nr) (ns := ns) (ne := ne) (nd := nd) (ss := ss) (sp := sp) (sd := sd) (yl := nI L) (yt := yt) (yk := nI n) (nxt := nxt) (dos := dos) (ag := ag) (tc := tc) (tp := tp) (td := td) (kp := kp) A3 a4 (by omega)
    rw [e1]
    refine br_t (nI_le (b := 12) hc (by omega)) (X1 _ (X2 _ (X3 _ (X4 _ (py_cnt fun z0 z1 hz => nm_r hz ?_)))))
    refine py_vd (fun _ => br_f (by decide) (py_vd (fun _ => br_f (by decide) (py_vd (fun _ => br_f (by decide) (py_vd (fun _ => br_f (by decide) ?_) (fun h => absurd a4 h))) (fun h => absurd a3 h))) (fun h => absurd a2 h))) (fun h => absurd a1 h)
    rw [hlen, e1]
    refine br_t (nI_le (b := 12) hc (by omega)) (Y1 _ (Y2 _ (Y3 _ (Y4 _ ⟨A4.1.1, ?_⟩))))
    obtain ⟨A5, A6, A7⟩ := A4
    refine pi_mk ⟨by omega, hL, h3, hw, hGX, ⟨fun s hs => ?_, fun r hr => ?_⟩, hX, h8, A5⟩
    · rw [A6 s hs.1]; exact hGY.1 s hs
    · rw [A7 r hr]; exact hGY.2 r hr
  · rw [e1]
    refine br_f (nI_ge (a := 12) (by omega) (by omega)) (py_cnt fun z0 z1 hz => nm_r hz ?_)
    refine py_vd (fun _ => br_f (by decide) (py_vd (fun _ => br_f (by decide) (py_vd (fun _ => br_f (by decide) (py_vd (fun _ => br_f (by decide) ?_) (fun h => absurd a4 h))) (fun h => absurd a3 h))) (fun h => absurd a2 h))) (fun h => absurd a1 h)
    rw [hlen, e1]
    exact br_f (nI_ge (a := 12) (by omega) (by omega)) ⟨rfl, I2⟩

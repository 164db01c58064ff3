def pg_P (q : Nat) (pd tok len : Nat → Int32) : Prop := len 4 = nI q ∧ ∀ k, k < q → ∃ t, pg_tv t ∧ pd k = nI t ∧ tok (48 + k) = nI t
def pg_I (q L n : Nat) (gt gn gz : Nat → Nat) (pd tk af rs tx nr ns ne nd tok len nxt kp : Nat → Int32) : Prop :=
  q ≤ 12 ∧ L ≤ 16 ∧ n ≤ 30 ∧ pg_WF gt gn gz ∧ pg_GX gt gn gz tk af rs ∧ pg_GY gt gn gz tok nxt len ∧ pg_X tx L ∧ pg_N n nr ns ne nd kp ∧ pg_P q pd tok len
/-- the same list, grammar, text and nodes; tables and stacks are of no account between calls -/
def i_Rel (k : Nat) (u : SX) (v : SY) : Prop :=
  k = k ∧ ∃ (q L n : Nat) (gt gn gz : Nat → Nat) (sc yt : Int32) (pd pa tk af rs tx oc nr ns ne nd ss sp sd tok len nxt dos ag tc tp td kp : Nat → Int32), u = (nI q, nI L, nI n, sc, pd, pa, tk, af, rs, tx, oc, nr, ns, ne, nd, ss, sp, sd) ∧ v = (nI L, yt, nI n, tok, len, nxt, tx, dos, ag, tc, tp, td, kp) ∧ pg_I q L n gt gn gz pd tk af rs tx nr ns ne nd tok len nxt kp
theorem pi_mk {k q L n : Nat} {gt gn gz : Nat → Nat} {sc yt : Int32} {pd pa tk af rs tx oc nr ns ne nd ss sp sd tok len nxt dos ag tc tp td kp : Nat → Int32} (h : pg_I q L n gt gn gz pd tk af rs tx nr ns ne nd tok len nxt kp) : i_Rel k (nI q, nI L, nI n, sc, pd, pa, tk, af, rs, tx, oc, nr, ns, ne, nd, ss, sp, sd) (nI L, yt, nI n, tok, len, nxt, tx, dos, ag, tc, tp, td, kp) :=
  ⟨rfl, q, L, n, gt, gn, gz, sc, yt, pd, pa, tk, af, rs, tx, oc, nr, ns, ne, nd, ss, sp, sd, tok, len, nxt, dos, ag, tc, tp, td, kp, rfl, rfl, h⟩
theorem i_up {k : Nat} {u : SX} {v : SY} (h : i_Rel k u v) : i_Rel (k + 5) u v := ⟨rfl, h.2⟩
theorem pi_z {z : Nat → Nat} {s : Nat} (hz : z = fun _ => 0) (h : pg_lv z s) : False := by
  subst hz; exact absurd h.2 (Nat.not_lt_zero _)
theorem i_vc0 : wpX_init (fun u => wpY_init (fun v => i_Rel 0 u v)) := by
  refine pi_mk (k := 0) (q := 0) (L := 0) (n := 0) (gt := fun _ => 0) (gn := fun _ => 0) (gz := fun _ => 0) ⟨by omega, by omega, by omega, ⟨fun _ _ => Nat.zero_le _, fun s hs => (pi_z rfl hs).elim⟩, ⟨fun s hs => (pi_z rfl hs).elim, fun _ _ => rfl⟩, ⟨fun s hs => (pi_z rfl hs).elim, fun _ _ => rfl⟩, fun i hi => absurd hi (by omega), fun i hi => absurd hi (by omega), ⟨rfl, fun i hi => absurd hi (by omega)⟩⟩
section
variable {pc ln nc sc : Int32} {pd pa tk af rs tx oc nr ns ne nd ss sp sd : Nat → Int32} {post : Int32 → Prop} {x y : Int32}
theorem px_hL0 {L : Nat} (h : x < 0 ∨ nI L ≤ x) (hp : post 0) : wpX_hasLetter post (pc, nI L, nc, sc, pd, pa, tk, af, rs, tx, oc, nr, ns, ne, nd, ss, sp, sd) x :=
  br_c (fun _ => hp) (fun h1 => br_t (by rcases h with h | h; exact absurd h h1; exact h) hp)
theorem px_hL1 {L j : Nat} (hL : L ≤ 16) (h : j < L) (hp : post 1) : wpX_hasLetter post (pc, nI L, nc, sc, pd, pa, tk, af, rs, tx, oc, nr, ns, ne, nd, ss, sp, sd) (nI j) :=
  br_f (nI_pos (by omega)) (br_f (nI_ge h (by omega)) hp)
theorem px_iLt (h : ¬ x < 97 ∧ ¬ 122 < x) (hp : post 1) : wpX_isLetter post x := br_f h.1 (br_f h.2 hp)
theorem px_iLf (h : ¬ (¬ x < 97 ∧ ¬ 122 < x)) (hp : post 0) : wpX_isLetter post x := br_c (fun _ => hp) (fun h1 => br_c (fun _ => hp) (fun h2 => absurd ⟨h1, h2⟩ h))
theorem py_iLt (h : ¬ x < 97 ∧ ¬ 122 < x) (hp : post 1) : wpY_isLetter post x := br_f h.1 (br_f h.2 hp)
theorem py_iLf (h : ¬ (¬ x < 97 ∧ ¬ 122 < x)) (hp : post 0) : wpY_isLetter post x := br_c (fun _ => hp) (fun h1 => br_c (fun _ => hp) (fun h2 => absurd ⟨h1, h2⟩ h))
theorem px_iRt {r : Nat} (h : r < 4) (hp : post 1) : wpX_isRule post (nI r) := br_f (nI_pos (by omega)) (br_f (nI_ge (b := 4) h (by omega)) hp)
theorem px_iRf (h : x < 0 ∨ nI 4 ≤ x) (hp : post 0) : wpX_isRule post x := br_c (fun _ => hp) (fun h1 => br_t (by rcases h with h | h; exact absurd h h1; exact h) hp)
end
theorem pi_ix (x : Int32) {n : Nat} (hn : n < 2 ^ 31) : (x < 0 ∨ nI n ≤ x) ∨ ∃ j : Nat, j < n ∧ x = nI j := by
  rcases pk_ix x hn with h | h | h
  · exact Or.inl (Or.inl h)
  · exact Or.inl (Or.inr h)
  · exact Or.inr h
theorem i_vc_letter {k : Nat} {u : SX} {v : SY} (I : i_Rel k u v) (hk : k + 5 ≤ 2560) (v1 : Int32) : wpX_letter (fun r => wpY_letter (fun r' => r' = r ∧ i_Rel (k + 5) u v) v v1) u v1 := by
  have I2 := i_up I
  obtain ⟨_, q, L, n, gt, gn, gz, sc, yt, pd, pa, tk, af, rs, tx, oc, nr, ns, ne, nd, ss, sp, sd, tok, len, nxt, dos, ag, tc, tp, td, kp, rfl, rfl, hI⟩ := I
  have hL := hI.2.1
  unfold wpX_letter
  rcases pi_ix v1 (n := L) (by omega) with h | ⟨j, hj, rfl⟩
  · refine px_hL0 h (br_t rfl ?_)
    exact br_c (fun _ => ⟨rfl, I2⟩) (fun h1 => br_f (by rcases h with h | h; exact absurd h h1; exact Int32.not_lt.mpr h) ⟨rfl, I2⟩)
  · refine px_hL1 hL hj (br_f (by decide) ⟨vp_in_nI (by omega) (by decide), ?_⟩)
    exact br_f (nI_pos (by omega)) (br_t (nI_lt hj (by omega)) ⟨vp_in_nI (by omega) (by decide), rfl, I2⟩)
theorem i_vc_change {k : Nat} {u : SX} {v : SY} (I : i_Rel k u v) (hk : k + 5 ≤ 2560) (v1 : Int32) (v2 : Int32) : wpX_change (fun r u' => wpY_change (fun r' v' => r' = r ∧ i_Rel (k + 5) u' v') v v1 v2) u v1 v2 := by
  have I2 := i_up I
  obtain ⟨_, q, L, n, gt, gn, gz, sc, yt, pd, pa, tk, af, rs, tx, oc, nr, ns, ne, nd, ss, sp, sd, tok, len, nxt, dos, ag, tc, tp, td, kp, rfl, rfl, hI⟩ := I
  have hL := hI.2.1
  unfold wpX_change
  rcases pi_ix v1 (n := L) (by omega) with h | ⟨j, hj, rfl⟩
  · refine px_hL0 h (br_t rfl ?_)
    exact br_c (fun _ => ⟨rfl, I2⟩) (fun h1 => br_t (by rcases h with h | h; exact absurd h h1; exact h) ⟨rfl, I2⟩)
  · by_cases hl : ¬ v2 < 97 ∧ ¬ 122 < v2
    · refine px_hL1 hL hj (br_f (by decide) (px_iLt hl (br_f (by decide) ?_)))
      rw [nI_clamp (by omega)]
      refine ⟨vp_in_nI (by omega) (by decide), nm_e ⟨vp_in_nI (by omega) (by decide), nm_e ?_⟩⟩
      refine br_f (nI_pos (by omega)) (br_f (nI_ge hj (by omega)) (py_iLt hl (br_f (by decide) ?_)))
      rw [nI_clamp (by omega)]
      refine ⟨vp_in_nI (by omega) (by decide), nm_e ⟨vp_in_nI (by omega) (by decide), nm_e ⟨rfl, ?_⟩⟩⟩
      obtain ⟨h1, h2, h3, h4, h5, h6, h7, h8, h9⟩ := hI
      refine pi_mk ⟨h1, h2, h3, h4, h5, h6, fun i hi => ?_, h8, h9⟩
      by_cases e : i = j
      · subst e; rw [pk_us]; exact Int32.not_lt.mp hl.1
      · rw [pk_un e]; exact h7 i hi
    · refine px_hL1 hL hj (br_f (by decide) (px_iLf hl (br_t rfl ?_)))
      exact br_f (nI_pos (by omega)) (br_f (nI_ge hj (by omega)) (py_iLf hl (br_t rfl ⟨rfl, I2⟩)))
theorem i_vc_nodes {k : Nat} {u : SX} {v : SY} (I : i_Rel k u v) (hk : k + 5 ≤ 2560) : wpX_nodes (fun r => wpY_nodes (fun r' => r' = r ∧ i_Rel (k + 5) u v) v) u := by
  have I2 := i_up I
  obtain ⟨_, q, L, n, gt, gn, gz, sc, yt, pd, pa, tk, af, rs, tx, oc, nr, ns, ne, nd, ss, sp, sd, tok, len, nxt, dos, ag, tc, tp, td, kp, rfl, rfl, hI⟩ := I
  exact ⟨rfl, I2⟩
theorem i_vc_node {k : Nat} {u : SX} {v : SY} (I : i_Rel k u v) (hk : k + 5 ≤ 2560) (v1 : Int32) (v2 : Int32) : wpX_node (fun r => wpY_node (fun r' => r' = r ∧ i_Rel (k + 5) u v) v v1 v2) u v1 v2 := by
  have I2 := i_up I
  obtain ⟨_, q, L, n, gt, gn, gz, sc, yt, pd, pa, tk, af, rs, tx, oc, nr, ns, ne, nd, ss, sp, sd, tok, len, nxt, dos, ag, tc, tp, td, kp, rfl, rfl, hI⟩ := I
  have hn := hI.2.2.1
  have hN := hI.2.2.2.2.2.2.2.1
  rcases pi_ix v1 (n := n) (by omega) with h | ⟨j, hj, rfl⟩
  · refine br_c (fun h1 => br_t h1 ⟨rfl, I2⟩) (fun h1 => ?_)
    have h2 : nI n ≤ v1 := by
      rcases h with h | h
      · exact absurd h h1
      · exact h
    exact br_f (Int32.not_lt.mpr h2) (br_f h1 (br_t h2 ⟨rfl, I2⟩))
  · obtain ⟨n0, n1, n2, n3⟩ := hN j hj
    refine br_f (nI_pos (by omega)) (br_t (nI_lt hj (by omega)) ?_)
    rcases pi_ix v2 (n := 4) (by omega) with h | ⟨w, hw, rfl⟩
    · refine br_c (fun h1 => br_f (nI_pos (by omega)) (br_f (nI_ge hj (by omega)) (br_t h1 ⟨rfl, I2⟩))) (fun h1 => ?_)
      have h2 : nI 4 ≤ v2 := by
        rcases h with h | h
        · exact absurd h h1
        · exact h
      have h3 : (3 : Int32) < v2 := Int32.lt_of_lt_of_le (show (3 : Int32) < nI 4 from by decide) h2
      exact br_t h3 (br_f (nI_pos (by omega)) (br_f (nI_ge hj (by omega)) (br_f h1 (br_f (Int32.not_le.mpr h3) ⟨rfl, I2⟩))))
    · have e4 : 4 * nI j + nI w = nI (4 * j + w) := by rw [show (4 : Int32) = nI 4 from rfl, pk_mul, nI_add]
      have hy : ∀ r : Int32, kp (4 * j + w) = r → wpY_node (fun r' => r' = r ∧ i_Rel (k + 5) (nI q, nI L, nI n, sc, pd, pa, tk, af, rs, tx, oc, nr, ns, ne, nd, ss, sp, sd) (nI L, yt, nI n, tok, len, nxt, tx, dos, ag, tc, tp, td, kp)) (nI L, yt, nI n, tok, len, nxt, tx, dos, ag, tc, tp, td, kp) (nI j) (nI w) := by
        intro r hr
        refine br_f (nI_pos (by omega)) (br_f (nI_ge hj (by omega)) (br_f (nI_pos (by omega)) (br_t (nI_le (b := 3) (by omega) (by omega)) ?_)))
        rw [e4, nI_clamp (by omega)]
        exact ⟨vp_in_nI (by omega) (by decide), hr, I2⟩
      refine br_f (nI_pos (by omega)) (br_f (nI_nlt (a := 3) (by omega) (by omega)) ?_)
      have hv : vp_in (nI j) 30 := vp_in_nI (by omega) (by decide)
      rw [nI_clamp (by omega)]
      have h4 : w = 0 ∨ w = 1 ∨ w = 2 ∨ w = 3 := by omega
      rcases h4 with rfl | rfl | rfl | rfl
      · exact br_t (by decide) ⟨hv, hy _ n0⟩
      · exact br_f (by decide) (br_t (by decide) ⟨hv, hy _ n1⟩)
      · exact br_f (by decide) (br_f (by decide) (br_t (by decide) ⟨hv, hy _ n2⟩))
      · exact br_f (by decide) (br_f (by decide) (br_f (by decide) (br_t (by decide) ⟨hv, hy _ n3⟩)))
section
variable {pc ln nc sc : Int32} {pd pa tk af rs oc nr ns ne nd ss sp sd : Nat → Int32} {yl yt yk : Int32} {tok len nxt dos ag tc tp td kp : Nat → Int32}
theorem pi_ins {L p : Nat} {w : Int32} (hL : L < 16) (hp : p ≤ L) (hw : (97 : Int32) ≤ w) : ∀ d (tx : Nat → Int32), p + d ≤ L → (∀ i, i ≤ L → i ≠ p + d → (97 : Int32) ≤ tx i) → ∃ tx' : Nat → Int32, pg_X tx' (L + 1) ∧ (∀ (post : Int32 → SX → Prop) (n : Nat), d < n → post (nI (L + 1)) (pc, nI (L + 1), nc, sc, pd, pa, tk, af, rs, tx', oc, nr, ns, ne, nd, ss, sp, sd) → wX_insert_35 post (nI p) w pc (nI L) nc sc n (nI (p + d)) pd pa tk af rs tx oc nr ns ne nd ss sp sd) ∧ (∀ (post : Int32 → SY → Prop) (n : Nat), d < n → post (nI (L + 1)) (nI (L + 1), yt, yk, tok, len, nxt, tx', dos, ag, tc, tp, td, kp) → wY_insert_35 post (nI p) w (nI L) yt yk n (nI (p + d)) tok len nxt tx dos ag tc tp td kp) := by
  intro d
  induction d with
  | zero =>
    intro tx _ hx
    refine ⟨upd tx p w, ?_, fun post n hn h => ?_, fun post n hn h => ?_⟩
    · intro i hi
      by_cases e : i = p
      · subst e; rw [pk_us]; exact hw
      · rw [pk_un e]; exact hx i (by omega) e
    · obtain ⟨n, rfl⟩ : ∃ n', n = n' + 1 := ⟨n - 1, by omega⟩
      refine br_t (nI_le (by omega) (by omega)) ⟨vp_in_nI (by omega) (by decide), ?_⟩
      rw [nI_clamp (by omega)]
      exact nm_e (nm_r (nI_1 L) h)
    · obtain ⟨n, rfl⟩ : ∃ n', n = n' + 1 := ⟨n - 1, by omega⟩
      refine br_t (nI_le (by omega) (by omega)) ⟨vp_in_nI (by omega) (by decide), ?_⟩
      rw [nI_clamp (by omega)]
      exact nm_e (nm_r (nI_1 L) h)
  | succ d ih =>
    intro tx hd hx
    obtain ⟨tx', h1, h2, h3⟩ := ih (upd tx (p + (d + 1)) (tx (p + d))) (by omega) (fun i hi hne => by
      by_cases e : i = p + (d + 1)
      · subst e; rw [pk_us]; exact hx _ (by omega) (by omega)
      · rw [pk_un e]; exact hx i hi e)
    refine ⟨tx', h1, fun post n hn h => ?_, fun post n hn h => ?_⟩
    · obtain ⟨n, rfl⟩ : ∃ n', n = n' + 1 := ⟨n - 1, by omega⟩
      refine br_f (nI_ge (by omega) (by omega)) ?_
      rw [← Nat.add_assoc, nI_pred, nI_clamp (by omega), nI_clamp (by omega)]
      refine ⟨vp_in_nI (by omega) (by decide), vp_in_nI (by omega) (by decide), nm_e (nm_r (pk_m1 (p + d)) (h2 post n (by omega) h))⟩
    · obtain ⟨n, rfl⟩ : ∃ n', n = n' + 1 := ⟨n - 1, by omega⟩
      refine br_f (nI_ge (by omega) (by omega)) ?_
      rw [← Nat.add_assoc, nI_pred, nI_clamp (by omega), nI_clamp (by omega)]
      refine ⟨vp_in_nI (by omega) (by decide), vp_in_nI (by omega) (by decide), nm_e (nm_r (pk_m1 (p + d)) (h3 post n (by omega) h))⟩
theorem pi_era {L : Nat} (hL : L < 16) : ∀ d p (tx : Nat → Int32), p + d = L → pg_X tx (L + 1) → ∃ tx' : Nat → Int32, pg_X tx' (L + 1) ∧ (∀ (post : Int32 → SX → Prop) (n : Nat), d < n → post (nI L) (pc, nI L, nc, sc, pd, pa, tk, af, rs, tx', oc, nr, ns, ne, nd, ss, sp, sd) → wX_erase_22 post pc (nI L) nc sc n (nI p) pd pa tk af rs tx oc nr ns ne nd ss sp sd) ∧ (∀ (post : Int32 → SY → Prop) (n : Nat), d < n → post (nI L) (nI L, yt, yk, tok, len, nxt, tx', dos, ag, tc, tp, td, kp) → wY_erase_26 post (nI L) yt yk n (nI p) tok len nxt tx dos ag tc tp td kp) := by
  intro d
  induction d with
  | zero =>
    intro p tx hp hx
    refine ⟨tx, hx, fun post n hn h => ?_, fun post n hn h => ?_⟩
    · obtain ⟨n, rfl⟩ : ∃ n', n = n' + 1 := ⟨n - 1, by omega⟩
      exact br_t (nI_le (by omega) (by omega)) h
    · obtain ⟨n, rfl⟩ : ∃ n', n = n' + 1 := ⟨n - 1, by omega⟩
      exact br_t (nI_le (by omega) (by omega)) h
  | succ d ih =>
    intro p tx hp hx
    obtain ⟨tx', h1, h2, h3⟩ := ih (p + 1) (upd tx p (tx (p + 1))) (by omega) (fun i hi => by
      by_cases e : i = p
      · subst e; rw [pk_us]; exact hx _ (by omega)
      · rw [pk_un e]; exact hx i hi)
    refine ⟨tx', h1, fun post n hn h => ?_, fun post n hn h => ?_⟩
    · obtain ⟨n, rfl⟩ : ∃ n', n = n' + 1 := ⟨n - 1, by omega⟩
      refine br_f (nI_ge (by omega) (by omega)) ?_
      rw [nI_1, nI_clamp (by omega), nI_clamp (by omega)]
      exact ⟨vp_in_nI (by omega) (by decide), vp_in_nI (by omega) (by decide), nm_e (nm_e (h2 post n (by omega) h))⟩
    · obtain ⟨n, rfl⟩ : ∃ n', n = n' + 1 := ⟨n - 1, by omega⟩
      refine br_f (nI_ge (by omega) (by omega)) ?_
      rw [nI_1, nI_clamp (by omega), nI_clamp (by omega)]
      exact ⟨vp_in_nI (by omega) (by decide), vp_in_nI (by omega) (by decide), nm_e (nm_e (h3 post n (by omega) h))⟩
end
theorem i_vc_insert {k : Nat} {u : SX} {v : SY} (I : i_Rel k u v) (hk : k + 5 ≤ 2560) (v1 : Int32) (v2 : Int32) : wpX_insert (fun r u' => wpY_insert (fun r' v' => r' = r ∧ i_Rel (k + 5) u' v') v v1 v2) u v1 v2 := by
  have I2 := i_up I
  obtain ⟨_, q, L, n, gt, gn, gz, sc, yt, pd, pa, tk, af, rs, tx, oc, nr, ns, ne, nd, ss, sp, sd, tok, len, nxt, dos, ag, tc, tp, td, kp, rfl, rfl, hI⟩ := I
  have hL := hI.2.1
  rcases pi_ix v1 (n := L + 1) (by omega) with h | ⟨p, hp, rfl⟩
  · refine br_c (fun h1 => br_t h1 ⟨rfl, I2⟩) (fun h1 => ?_)
    have h2 : nI L < v1 := by
      rcases h with h | h
      · exact absurd h h1
      · exact Int32.lt_of_lt_of_le (nI_lt (by omega) (by omega)) h
    exact br_t h2 (br_f h1 (br_t h2 ⟨rfl, I2⟩))
  · refine br_f (nI_pos (by omega)) (br_f (nI_nlt (by omega) (by omega)) ?_)
    by_cases hl : ¬ v2 < 97 ∧ ¬ 122 < v2
    · refine px_iLt hl (br_f (by decide) ?_)
      by_cases h16 : L < 16
      · obtain ⟨h1, h2, h3, h4, h5, h6, h7, h8, h9⟩ := hI
        obtain ⟨tx', a1, a2, a3⟩ := pi_ins (pc := nI q) (nc := nI n) (sc := sc) (pd := pd) (pa := pa) (tk := tk) (af := af) (rs := rs) (oc := oc) (nr := nr) (ns := ns) (ne := ne) (nd := nd) (ss := ss) (sp := sp) (sd := sd) (yt := yt) (yk := nI n) (tok := tok) (len := len) (nxt := nxt) (dos := dos) (ag := ag) (tc := tc) (tp := tp) (td := td) (kp := kp) (p := p) h16 (by omega) (Int32.not_lt.mp hl.1) (L - p) tx (by omega) (fun i hi hne => h7 i (by omega))
        have e : p + (L - p) = L := by omega
        rw [e] at a2 a3
        refine br_t (nI_lt (b := 16) h16 (by omega)) ⟨L - p + 1, a2 _ _ (by omega) ?_⟩
        refine br_f (nI_pos (by omega)) (br_f (nI_nlt (by omega) (by omega)) (py_iLt hl (br_f (by decide) ?_)))
        refine br_f (fun e => ?_) ⟨L - p + 1, a3 _ _ (by omega) ⟨rfl, pi_mk ⟨h1, by omega, h3, h4, h5, h6, a1, h8, h9⟩⟩⟩
        rw [show (16 : Int32) = nI 16 from rfl, nI_eq (by omega) (by omega)] at e
        omega
      · refine br_f (nI_nlt (b := 16) (by omega) (by omega)) ?_
        refine br_f (nI_pos (by omega)) (br_f (nI_nlt (by omega) (by omega)) (py_iLt hl (br_f (by decide) (br_t ?_ ⟨rfl, I2⟩))))
        rw [show L = 16 from by omega]; rfl
    · refine px_iLf hl (br_t rfl ?_)
      exact br_f (nI_pos (by omega)) (br_f (nI_nlt (by omega) (by omega)) (py_iLf hl (br_t rfl ⟨rfl, I2⟩)))
theorem i_vc_erase {k : Nat} {u : SX} {v : SY} (I : i_Rel k u v) (hk : k + 5 ≤ 2560) (v1 : Int32) : wpX_erase (fun r u' => wpY_erase (fun r' v' => r' = r ∧ i_Rel (k + 5) u' v') v v1) u v1 := by
  have I2 := i_up I
  obtain ⟨_, q, L, n, gt, gn, gz, sc, yt, pd, pa, tk, af, rs, tx, oc, nr, ns, ne, nd, ss, sp, sd, tok, len, nxt, dos, ag, tc, tp, td, kp, rfl, rfl, hI⟩ := I
  have hL := hI.2.1
  unfold wpX_erase
  rcases pi_ix v1 (n := L) (by omega) with h | ⟨p, hp, rfl⟩
  · refine px_hL0 h (br_t rfl ?_)
    exact br_c (fun _ => ⟨rfl, I2⟩) (fun h1 => br_f (by rcases h with h | h; exact absurd h h1; exact Int32.not_lt.mpr h) ⟨rfl, I2⟩)
  · obtain ⟨h1, h2, h3, h4, h5, h6, h7, h8, h9⟩ := hI
    obtain ⟨L, rfl⟩ : ∃ L', L = L' + 1 := ⟨L - 1, by omega⟩
    obtain ⟨tx', a1, a2, a3⟩ := pi_era (pc := nI q) (nc := nI n) (sc := sc) (pd := pd) (pa := pa) (tk := tk) (af := af) (rs := rs) (oc := oc) (nr := nr) (ns := ns) (ne := ne) (nd := nd) (ss := ss) (sp := sp) (sd := sd) (yt := yt) (yk := nI n) (tok := tok) (len := len) (nxt := nxt) (dos := dos) (ag := ag) (tc := tc) (tp := tp) (td := td) (kp := kp) (L := L) (by omega) (L - p) p tx (by omega) h7
    refine px_hL1 hL hp (br_f (by decide) (nm_r (nI_pred L) ⟨L - p + 1, a2 _ _ (by omega) ?_⟩))
    refine br_f (nI_pos (by omega)) (br_t (nI_lt hp (by omega)) (nm_r (nI_pred L) ⟨L - p + 1, a3 _ _ (by omega) ⟨rfl, pi_mk ⟨h1, by omega, h3, h4, h5, h6, fun i hi => a1 i (by omega), h8, h9⟩⟩⟩))

section
variable (gt gn gz T : Nat → Nat) (L : Nat) (pc ln : Int32) (pd pa tk af rs tx oc : Nat → Int32) (yl : Int32) (tok len nxt dos ag : Nat → Int32)
/-- both sides come to related stacks and nodes, with at most M steps to go -/
def pt_Res (M : Nat) (WX : (SX → Prop) → Prop) (WY : (SY → Prop) → Prop) : Prop :=
  ∃ (n m : Nat) (nr ns ne nd ss sp sd tc tp td kp : Nat → Int32) (sl pl : Nat → Nat), pg_St gt gn gz T L m n ss sp sd tc tp td sl pl ∧ pg_N n nr ns ne nd kp ∧ n ≤ 30 ∧ pg_S gn T sl pl m + (30 - n) * 1260 ≤ M ∧ (∀ post : SX → Prop, post (pc, ln, nI n, nI m, pd, pa, tk, af, rs, tx, oc, nr, ns, ne, nd, ss, sp, sd) → WX post) ∧ (∀ post : SY → Prop, post (yl, nI m, nI n, tok, len, nxt, tx, dos, ag, tc, tp, td, kp) → WY post)
end
section
variable {gt gn gz T : Nat → Nat} {L : Nat} {pc ln : Int32} {pd pa tk af rs tx oc : Nat → Int32} {yl : Int32} {tok len nxt dos ag : Nat → Int32}
variable {n m : Nat} {nr ns ne nd ss sp sd tc tp td kp : Nat → Int32} {sl pl : Nat → Nat} {M : Nat} {WX : (SX → Prop) → Prop} {WY : (SY → Prop) → Prop}
theorem pt_0 (hS : pg_St gt gn gz T L m n ss sp sd tc tp td sl pl) (hN : pg_N n nr ns ne nd kp) (hn : n ≤ 30) (hb : pg_S gn T sl pl m + (30 - n) * 1260 ≤ M) (hX : ∀ post : SX → Prop, post (pc, ln, nI n, nI m, pd, pa, tk, af, rs, tx, oc, nr, ns, ne, nd, ss, sp, sd) → WX post) (hY : ∀ post : SY → Prop, post (yl, nI m, nI n, tok, len, nxt, tx, dos, ag, tc, tp, td, kp) → WY post) : pt_Res gt gn gz T L pc ln pd pa tk af rs tx oc yl tok len nxt dos ag M WX WY :=
  ⟨n, m, nr, ns, ne, nd, ss, sp, sd, tc, tp, td, kp, sl, pl, hS, hN, hn, hb, hX, hY⟩
theorem pt_1 {s1 p1 : Nat} {d1 : Int32} (hS : pg_St gt gn gz T L m n ss sp sd tc tp td sl pl) (hN : pg_N n nr ns ne nd kp) (hn : n ≤ 30) (h1 : pg_OK gt gn gz T L m n s1 p1) (hb : pg_S gn T sl pl m + pg_pot gn T s1 p1 + (30 - n) * 1260 ≤ M) (hX : ∀ post : SX → Prop, post (pc, ln, nI n, nI (m + 1), pd, pa, tk, af, rs, tx, oc, nr, ns, ne, nd, upd ss m (nI s1), upd sp m (nI p1), upd sd m d1) → WX post) (hY : ∀ post : SY → Prop, post (yl, nI (m + 1), nI n, tok, len, nxt, tx, dos, ag, upd tc m (nI s1), upd tp m (nI p1), upd td m d1, kp) → WY post) : pt_Res gt gn gz T L pc ln pd pa tk af rs tx oc yl tok len nxt dos ag M WX WY :=
  pt_0 (pg_St_push hS h1) hN hn (by rw [pg_S_push]; exact hb) hX hY
theorem pt_2 {s1 p1 s2 p2 : Nat} {d1 d2 : Int32} (hS : pg_St gt gn gz T L m n ss sp sd tc tp td sl pl) (hN : pg_N n nr ns ne nd kp) (hn : n ≤ 30) (h2 : pg_OK gt gn gz T L m n s2 p2) (h1 : pg_OK gt gn gz T L (m + 1) n s1 p1) (hb : pg_S gn T sl pl m + pg_pot gn T s2 p2 + pg_pot gn T s1 p1 + (30 - n) * 1260 ≤ M) (hX : ∀ post : SX → Prop, post (pc, ln, nI n, nI (m + 1 + 1), pd, pa, tk, af, rs, tx, oc, nr, ns, ne, nd, upd (upd ss m (nI s2)) (m + 1) (nI s1), upd (upd sp m (nI p2)) (m + 1) (nI p1), upd (upd sd m d2) (m + 1) d1) → WX post) (hY : ∀ post : SY → Prop, post (yl, nI (m + 1 + 1), nI n, tok, len, nxt, tx, dos, ag, upd (upd tc m (nI s2)) (m + 1) (nI s1), upd (upd tp m (nI p2)) (m + 1) (nI p1), upd (upd td m d2) (m + 1) d1, kp) → WY post) : pt_Res gt gn gz T L pc ln pd pa tk af rs tx oc yl tok len nxt dos ag M WX WY :=
  pt_1 (pg_St_push hS h2) hN hn h1 (by rw [pg_S_push]; exact hb) hX hY
end
section
variable {pc ln nc sc : Int32} {pd pa tk af rs tx oc nr ns ne nd ss sp sd : Nat → Int32} {post : SX → Prop} {x y d : Int32}
theorem px_push (m s p : Nat) (hx : x = nI s) (hy : y = nI p) (hm : m < 360) (hs : s < 48) (h : post (pc, ln, nc, nI (m + 1), pd, pa, tk, af, rs, tx, oc, nr, ns, ne, nd, upd ss m (nI s), upd sp m (nI p), upd sd m d)) : wpX_push post (pc, ln, nc, nI m, pd, pa, tk, af, rs, tx, oc, nr, ns, ne, nd, ss, sp, sd) x y d := by
  subst hx hy
  refine br_f (nI_ge (b := 360) hm (by decide)) (br_f (nI_pos (by omega)) (br_f (nI_ge (b := 48) hs (by decide)) ?_))
  rw [nI_clamp (by omega)]
  exact ⟨vp_in_nI hm (by decide), nm_e ⟨vp_in_nI hm (by decide), nm_e ⟨vp_in_nI hm (by decide), nm_e (nm_r (nI_1 m) h)⟩⟩⟩
theorem px_addNode (m n r p z : Nat) (e : Int32) (hx : x = nI r) (hy : y = nI p) (hm : m < 360) (hn : n < 30) (hr : r < 4) (hp : p < 17) (hz : rs r = nI z) (hz0 : z ≠ 0) (hz2 : z ≤ 12) (he : oc (17 * (12 * r) + p) = e) (h : post (pc, ln, nI (n + 1), nI (m + 1), pd, pa, tk, af, rs, tx, oc, upd nr n (nI r), upd ns n (nI p), upd ne n e, upd nd n d, upd ss m (nI (12 * r)), upd sp m (nI p), upd sd m (d + 1))) : wpX_addNode post (pc, ln, nI n, nI m, pd, pa, tk, af, rs, tx, oc, nr, ns, ne, nd, ss, sp, sd) x y d := by
  subst hx hy
  refine br_t (nI_lt (b := 30) hn (by decide)) ?_
  rw [nI_clamp (by omega)]
  refine ⟨vp_in_nI hn (by decide), nm_e ⟨vp_in_nI hn (by decide), nm_e ?_⟩⟩
  refine px_rO r p z rfl rfl hr hp hz hz2 ?_
  rw [if_neg hz0, he]
  refine ⟨vp_in_nI hn (by decide), nm_e ⟨vp_in_nI hn (by decide), nm_e (nm_r (nI_1 n) ⟨vp_in_nI hr (by decide), ?_⟩)⟩⟩
  rw [nI_clamp (by omega), hz]
  refine br_f (nI_nle (by omega) (by omega)) (px_push m (12 * r) p ?_ rfl hm (by omega) h)
  rw [show (12 : Int32) = nI 12 from rfl, pk_mul, Nat.mul_comm]
end
section
variable {yl yt yk : Int32} {tok len nxt tx dos ag tc tp td kp : Nat → Int32} {post : SY → Prop} {x y d : Int32}
theorem py_task (m s p : Nat) (hx : x = nI s) (hy : y = nI p) (hm : m < 400) (h : post (yl, nI (m + 1), yk, tok, len, nxt, tx, dos, ag, upd tc m (nI s), upd tp m (nI p), upd td m d, kp)) : wpY_task post (yl, nI m, yk, tok, len, nxt, tx, dos, ag, tc, tp, td, kp) x y d := by
  subst hx hy
  refine br_f (fun e => ?_) ?_
  · rw [show (400 : Int32) = nI 400 from rfl, nI_eq (by omega) (by omega)] at e; omega
  rw [nI_clamp (by omega)]
  exact ⟨vp_in_nI hm (by decide), nm_e ⟨vp_in_nI hm (by decide), nm_e ⟨vp_in_nI hm (by decide), nm_e (nm_r (nI_1 m) h)⟩⟩⟩
theorem py_keep (n : Nat) {a b c d : Int32} (hn : n < 30) (h : post (yl, yt, nI (n + 1), tok, len, nxt, tx, dos, ag, tc, tp, td, upd (upd (upd (upd kp (4 * n) a) (4 * n + 1) b) (4 * n + 2) c) (4 * n + 3) d)) : wpY_keep post (yl, yt, nI n, tok, len, nxt, tx, dos, ag, tc, tp, td, kp) a b c d := by
  refine nm_r (e' := nI (4 * n)) (by rw [show (4 : Int32) = nI 4 from rfl, pk_mul]) ?_
  have e2 : nI (4 * n) + 2 = nI (4 * n + 2) := by rw [show (2 : Int32) = nI 2 from rfl, nI_add]
  have e3 : nI (4 * n) + 3 = nI (4 * n + 3) := by rw [show (3 : Int32) = nI 3 from rfl, nI_add]
  rw [nI_1 (4 * n), e2, e3, nI_clamp (by omega), nI_clamp (by omega), nI_clamp (by omega), nI_clamp (by omega)]
  exact ⟨vp_in_nI (by omega) (by decide), nm_e ⟨vp_in_nI (by omega) (by decide), nm_e ⟨vp_in_nI (by omega) (by decide), nm_e ⟨vp_in_nI (by omega) (by decide), nm_e (nm_r (nI_1 n) h)⟩⟩⟩⟩
end
/-- the step's fixed facts -/
def pt_H (gt gn gz T : Nat → Nat) (L : Nat) (gm : Nat → Nat → Bool) (tk af rs oc tok len nxt dos : Nat → Int32) : Prop :=
  pg_WF gt gn gz ∧ L ≤ 16 ∧ pg_GX gt gn gz tk af rs ∧ pg_GY gt gn gz tok nxt len ∧ pg_BX gz L T ∧ (∀ s p, pg_lv gz s → p ≤ L → oc (17 * s + p) = pg_en (T (17 * s + p))) ∧ (∀ s p, pg_lv gz s → p ≤ L → dos (17 * s + p) = pg_en (T (17 * s + p))) ∧ (∀ s p, pg_lv gz s → p ≤ L → T (17 * s + p) = pg_F gt gn gz gm T s p)
section
variable {gt gn gz T : Nat → Nat} {L : Nat} {gm : Nat → Nat → Bool} {pc ln : Int32} {pd pa tk af rs tx oc : Nat → Int32} {yl : Int32} {tok len nxt dos ag : Nat → Int32}
variable {n m s p : Nat} {nr ns ne nd ss sp sd tc tp td kp : Nat → Int32} {sl pl : Nat → Nat} {M : Nat} {d : Int32}
/-- tokens from 10 to 14: what X's expand asks when its part is read -/
theorem px_ex (hH : pt_H gt gn gz T L gm tk af rs oc tok len nxt dos) {nc sc : Int32} (hs : pg_lv gz s) (hp : p ≤ L) (h1 : 10 ≤ gt s) (h2 : gt s ≤ 14) {post : SX → Prop} (h : (nI (gt s) = 10 → wpX_push (fun u => match u with | (pc, ln, nc, sc, pd, pa, tk, af, rs, tx, oc, nr, ns, ne, nd, ss, sp, sd) => wX_expand_76 post (nI s) (nI p) d (nI (gt s)) (pg_en (T (17 * (s + 1) + p))) (nI (gn (s + 1))) pc ln nc sc pd pa tk af rs tx oc nr ns ne nd ss sp sd) (pc, ln, nc, sc, pd, pa, tk, af, rs, tx, oc, nr, ns, ne, nd, ss, sp, sd) (nI (gn (s + 1))) (pg_en (T (17 * (s + 1) + p))) d) ∧ (¬ nI (gt s) = 10 → wX_expand_76 post (nI s) (nI p) d (nI (gt s)) (pg_en (T (17 * (s + 1) + p))) (nI (gn (s + 1))) pc ln nc sc pd pa tk af rs tx oc nr ns ne nd ss sp sd)) : wpX_expand post (pc, ln, nc, sc, pd, pa, tk, af, rs, tx, oc, nr, ns, ne, nd, ss, sp, sd) (nI s) (nI p) d := by
  obtain ⟨hw, hL, hG, _, _, hO, _, _⟩ := hH
  have hs1 := hs.1
  have l1 := (pg_lv_1 hw hs (by omega) (by omega)).1
  have hl1 := l1.1
  refine ⟨vp_in_nI hs1 (by decide), nm_r (e' := nI (gt s)) (by rw [nI_clamp (by omega)]; exact (hG.1 _ hs).1) ?_⟩
  refine br_t (nI_lt (b := 20) (by omega) (by omega)) (br_t rfl (br_f (nI_nlt (b := 10) (by omega) (by omega)) (br_t (nI_le (b := 14) (by omega) (by omega)) ?_)))
  refine px_oA (s + 1) p (nI_1 s) rfl hl1 (by omega) ?_
  refine px_sP s rfl hl1 ?_
  rw [hO _ _ l1 hp, (hG.1 _ l1).2]
  exact h
/-- tokens from 10 to 16: what Y's visit asks when its part is read -/
theorem py_vi (hH : pt_H gt gn gz T L gm tk af rs oc tok len nxt dos) {yt yk : Int32} (hs : pg_lv gz s) (hp : p ≤ L) (h1 : 10 ≤ gt s) (h2 : gt s ≤ 16) {post : SY → Prop} (h : wY_visit_97 post (nI s) (nI p) d (nI (gt s)) (pg_en (T (17 * (s + 1) + p))) yl yt yk tok len nxt tx dos ag tc tp td kp) : wpY_visit post (yl, yt, yk, tok, len, nxt, tx, dos, ag, tc, tp, td, kp) (nI s) (nI p) d := by
  obtain ⟨hw, hL, _, hG, _, _, hD, _⟩ := hH
  have hs1 := hs.1
  have l1 := (pg_lv_1 hw hs (by omega) (by omega)).1
  have hl1 := l1.1
  refine ⟨vp_in_nI (by omega) (by decide), nm_r (e' := nI (gt s)) (by rw [nI_clamp (by omega)]; exact (hG.1 _ hs).1) ?_⟩
  refine br_f (nI_nlt (b := 10) (by omega) (by omega)) (br_f (nI_nlt (a := 16) (by omega) (by omega)) ?_)
  rw [nI_1, pq_17, nI_clamp (by omega), hD _ _ l1 hp]
  exact ⟨vp_in_nI (by omega) (by decide), br_t (nI_lt (b := 20) (by omega) (by omega)) h⟩
end

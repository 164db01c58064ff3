theorem pg_pot_eq {gn T : Nat → Nat} {s p z l : Nat} (hz : gn s - s = z) (hl : T (17 * s + p) - 3 - p = l) : pg_pot gn T s p = pg_f z l := by
  unfold pg_pot; rw [hz, hl]
section
variable {gt gn gz T : Nat → Nat} {L : Nat} {gm : Nat → Nat → Bool} {pc ln : Int32} {pd pa tk af rs tx oc : Nat → Int32} {yl : Int32} {tok len nxt dos ag : Nat → Int32}
variable {n m s p : Nat} {nr ns ne nd ss sp sd tc tp td kp : Nat → Int32} {sl pl : Nat → Nat} {M : Nat} {d : Int32}
/-- nothing is pushed: letters, 'any', 'empty', a range, look-ahead -/
theorem ps_leaf (hH : pt_H gt gn gz T L gm tk af rs oc tok len nxt dos) (hS : pg_St gt gn gz T L m n ss sp sd tc tp td sl pl) (hN : pg_N n nr ns ne nd kp) (hn : n < 30) (hok : pg_OK gt gn gz T L m n s p) (hb : pg_S gn T sl pl m + pg_pot gn T s p + (30 - n) * 1260 ≤ M + 1) (ht : gt s = 1 ∨ gt s = 2 ∨ gt s = 3 ∨ gt s = 15 ∨ gt s = 16 ∨ (97 ≤ gt s ∧ gt s ≤ 122)) : pt_Res gt gn gz T L pc ln pd pa tk af rs tx oc yl tok len nxt dos ag M (fun post => wpX_expand post (pc, ln, nI n, nI m, pd, pa, tk, af, rs, tx, oc, nr, ns, ne, nd, ss, sp, sd) (nI s) (nI p) d) (fun post => wpY_visit post (yl, nI m, nI n, tok, len, nxt, tx, dos, ag, tc, tp, td, kp) (nI s) (nI p) d) := by
  have hH' := hH
  obtain ⟨hw, hL, hGX, hGY, hB, hO, hD, hF⟩ := hH'
  obtain ⟨hs, hp, hv, hh⟩ := hok
  have hs1 := hs.1
  have hgn := (hw.2 s hs).1
  have hpos : 1 ≤ pg_pot gn T s p := pg_f_pos (by omega)
  refine pt_0 hS hN (by omega) (by omega) (fun post h => ?_) (fun post h => ?_)
  · refine ⟨vp_in_nI hs1 (by decide), nm_r (e' := nI (gt s)) (by rw [nI_clamp (by omega)]; exact (hGX.1 _ hs).1) ?_⟩
    rcases ht with ht | ht | ht | ht | ht | ht
    · rw [ht]; exact br_t (by decide) (br_t rfl (br_t (by decide) h))
    · rw [ht]; exact br_t (by decide) (br_t rfl (br_t (by decide) h))
    · rw [ht]; exact br_t (by decide) (br_t rfl (br_t (by decide) h))
    · rw [ht]; exact br_t (by decide) (br_t rfl (br_f (by decide) (br_f (by decide) h)))
    · rw [ht]; exact br_t (by decide) (br_t rfl (br_f (by decide) (br_f (by decide) h)))
    · exact br_f (nI_nlt (b := 20) (by omega) (by omega)) (br_t (nI_le (a := 24) (by omega) (by omega)) (br_t rfl (br_f (nI_nlt (b := 10) (by omega) (by omega)) (br_f (nI_ge (a := 14) (by omega) (by omega)) h))))
  · by_cases ht2 : gt s = 15 ∨ gt s = 16
    · refine py_vi hH hs hp (by omega) (by omega) ?_
      rcases ht2 with ht | ht
      · rw [ht]; exact br_f (by decide) (br_f (by decide) (br_c (fun _ => h) (fun _ => br_t (by decide) h)))
      · rw [ht]; exact br_f (by decide) (br_f (by decide) (br_c (fun _ => h) (fun _ => br_t (by decide) h)))
    · refine ⟨vp_in_nI (by omega) (by decide), nm_r (e' := nI (gt s)) (by rw [nI_clamp (by omega)]; exact (hGY.1 _ hs).1) ?_⟩
      by_cases ht3 : gt s < 10
      · have ht4 : gt s = 1 ∨ gt s = 2 ∨ gt s = 3 := by omega
        rcases ht4 with ht | ht | ht
        · rw [ht]; exact br_t (by decide) (br_t (by decide) (br_f (by decide) (br_f (by decide) (br_t (by decide) h))))
        · rw [ht]; exact br_t (by decide) (br_t (by decide) (br_f (by decide) (br_f (by decide) (br_t (by decide) h))))
        · rw [ht]; exact br_t (by decide) (br_t (by decide) (br_f (by decide) (br_f (by decide) (br_t (by decide) h))))
      · refine br_f (nI_nlt (b := 10) (by omega) (by omega)) (br_t (nI_lt (a := 16) (by omega) (by omega)) (br_f (nI_nlt (b := 20) (by omega) (by omega)) (br_t (nI_lt (a := 23) (by omega) (by omega)) ?_)))
        exact pk_eq (gt s) 10 (fun e => absurd e (by omega)) (fun _ => pk_eq (gt s) 11 (fun e => absurd e (by omega)) (fun _ => br_t (by decide) h))
theorem ps_seq (hH : pt_H gt gn gz T L gm tk af rs oc tok len nxt dos) (hS : pg_St gt gn gz T L m n ss sp sd tc tp td sl pl) (hN : pg_N n nr ns ne nd kp) (hn : n < 30) (hok : pg_OK gt gn gz T L m n s p) (hb : pg_S gn T sl pl m + pg_pot gn T s p + (30 - n) * 1260 ≤ M + 1) (ht : gt s = 10) : pt_Res gt gn gz T L pc ln pd pa tk af rs tx oc yl tok len nxt dos ag M (fun post => wpX_expand post (pc, ln, nI n, nI m, pd, pa, tk, af, rs, tx, oc, nr, ns, ne, nd, ss, sp, sd) (nI s) (nI p) d) (fun post => wpY_visit post (yl, nI m, nI n, tok, len, nxt, tx, dos, ag, tc, tp, td, kp) (nI s) (nI p) d) := by
  have hH' := hH
  obtain ⟨hw, hL, hGX, hGY, hB, hO, hD, hF⟩ := hH'
  obtain ⟨hs, hp, hv, hh⟩ := hok
  have hs1 := hs.1
  have l1 := (pg_lv_1 hw hs (by omega) (by omega)).1
  have l2 := (pg_lv_2 hw hs (Or.inl ht)).1
  have hl1 := l1.1
  have hl2 := l2.1
  have g0 := (hw.2 s hs).1
  have g1 := (hw.2 _ l1).1
  have g2 := (hw.2 _ l2).1
  have g3 := ((hw.2 s hs).2.2.2.2.1 (Or.inl ht)).2
  have hb1 := pg_bx hB hL l1 hp
  have e0 := hF s p hs hp
  rw [pF_10 ht] at e0
  rcases pg_bd3 hb1 with e | e | ⟨j, j1, j2, e⟩
  · rw [e] at e0; simp at e0; omega
  · rw [e] at e0; simp at e0; omega
  rw [e, if_neg (by omega), Nat.add_sub_cancel] at e0
  have hb2 := pg_bx hB hL l2 j2
  unfold pg_bd at hb2
  have k2 : pg_pot gn T (gn (s + 1)) j = pg_f (gn s - gn (s + 1)) (T (17 * gn (s + 1) + j) - 3 - j) := pg_pot_eq (by rw [g3]) rfl
  have k1 : pg_pot gn T (s + 1) p = pg_f (gn (s + 1) - (s + 1)) (j - p) := pg_pot_eq rfl (by rw [e]; omega)
  have k0 : pg_pot gn T s p = pg_f (gn s - s) ((j - p) + (T (17 * gn (s + 1) + j) - 3 - j)) := pg_pot_eq rfl (by omega)
  have hq := pg_f_seq (z := gn s - s) (z1 := gn (s + 1) - (s + 1)) (z2 := gn s - gn (s + 1)) (l1 := j - p) (l2 := T (17 * gn (s + 1) + j) - 3 - j) (by omega)
  refine pt_2 (s2 := gn (s + 1)) (p2 := j) (s1 := s + 1) (p1 := p) (d1 := d) (d2 := d) hS hN (by omega) ⟨l2, j2, Or.inl (by omega), by omega⟩ ⟨l1, hp, Or.inl (by omega), by omega⟩ (by omega) (fun post h => ?_) (fun post h => ?_)
  · refine px_ex hH hs hp (by omega) (by omega) ?_
    rw [ht, e, en_3]
    refine br_t rfl (px_push m (gn (s + 1)) j rfl rfl (by omega) hl2 ?_)
    exact br_f (by decide) (br_f (by decide) (br_f (by decide) (br_f (nI_pos (by omega)) (px_push (m + 1) (s + 1) p (nI_1 s) rfl (by omega) hl1 h))))
  · refine py_vi hH hs hp (by omega) (by omega) ?_
    rw [ht, e, en_3]
    refine br_t rfl ?_
    rw [nI_1, nI_clamp (by omega), (hGY.1 _ l1).2]
    exact ⟨vp_in_nI (by omega) (by decide), py_task m (gn (s + 1)) j rfl rfl (by omega) (py_task (m + 1) (s + 1) p rfl rfl (by omega) h)⟩
theorem ps_cho (hH : pt_H gt gn gz T L gm tk af rs oc tok len nxt dos) (hS : pg_St gt gn gz T L m n ss sp sd tc tp td sl pl) (hN : pg_N n nr ns ne nd kp) (hn : n < 30) (hok : pg_OK gt gn gz T L m n s p) (hb : pg_S gn T sl pl m + pg_pot gn T s p + (30 - n) * 1260 ≤ M + 1) (ht : gt s = 11) : pt_Res gt gn gz T L pc ln pd pa tk af rs tx oc yl tok len nxt dos ag M (fun post => wpX_expand post (pc, ln, nI n, nI m, pd, pa, tk, af, rs, tx, oc, nr, ns, ne, nd, ss, sp, sd) (nI s) (nI p) d) (fun post => wpY_visit post (yl, nI m, nI n, tok, len, nxt, tx, dos, ag, tc, tp, td, kp) (nI s) (nI p) d) := by
  have hH' := hH
  obtain ⟨hw, hL, hGX, hGY, hB, hO, hD, hF⟩ := hH'
  obtain ⟨hs, hp, hv, hh⟩ := hok
  have hs1 := hs.1
  have l1 := (pg_lv_1 hw hs (by omega) (by omega)).1
  have l2 := (pg_lv_2 hw hs (Or.inr ht)).1
  have hl1 := l1.1
  have hl2 := l2.1
  have g0 := (hw.2 s hs).1
  have g1 := (hw.2 _ l1).1
  have g2 := (hw.2 _ l2).1
  have g3 := ((hw.2 s hs).2.2.2.2.1 (Or.inr ht)).2
  have hb1 := pg_bx hB hL l1 hp
  have e0 := hF s p hs hp
  rw [pF_11 ht] at e0
  rcases pg_bd3 hb1 with e | e | ⟨j, j1, j2, e⟩
  · rw [e] at e0; simp at e0; omega
  · rw [e, if_pos rfl] at e0
    have k2 : pg_pot gn T (gn (s + 1)) p = pg_f (gn s - gn (s + 1)) (T (17 * s + p) - 3 - p) := pg_pot_eq (by rw [g3]) (by rw [e0])
    have hq := pg_f_one (z := gn s - s) (z1 := gn s - gn (s + 1)) (l := T (17 * s + p) - 3 - p) (by omega)
    have k0 : pg_pot gn T s p = pg_f (gn s - s) (T (17 * s + p) - 3 - p) := rfl
    refine pt_1 (s1 := gn (s + 1)) (p1 := p) (d1 := d) hS hN (by omega) ⟨l2, hp, Or.inl (by omega), by omega⟩ (by omega) (fun post h => ?_) (fun post h => ?_)
    · refine px_ex hH hs hp (by omega) (by omega) ?_
      rw [ht, e, en_1]
      refine br_f (by decide) (br_t rfl (br_t rfl (px_push m (gn (s + 1)) p rfl rfl (by omega) hl2 ?_)))
      exact br_f (by decide) (br_f (by decide) (br_t (by decide) h))
    · refine py_vi hH hs hp (by omega) (by omega) ?_
      rw [ht, e, en_1]
      refine br_f (by decide) (br_t rfl (br_f (by decide) ?_))
      rw [nI_1, nI_clamp (by omega), (hGY.1 _ l1).2]
      exact ⟨vp_in_nI (by omega) (by decide), py_task m (gn (s + 1)) p rfl rfl (by omega) h⟩
  · rw [e, if_neg (by omega)] at e0
    have k1 : pg_pot gn T (s + 1) p = pg_f (gn (s + 1) - (s + 1)) (T (17 * s + p) - 3 - p) := pg_pot_eq rfl (by rw [e0, e])
    have hq := pg_f_one (z := gn s - s) (z1 := gn (s + 1) - (s + 1)) (l := T (17 * s + p) - 3 - p) (by omega)
    have k0 : pg_pot gn T s p = pg_f (gn s - s) (T (17 * s + p) - 3 - p) := rfl
    refine pt_1 (s1 := s + 1) (p1 := p) (d1 := d) hS hN (by omega) ⟨l1, hp, Or.inl (by omega), by omega⟩ (by omega) (fun post h => ?_) (fun post h => ?_)
    · refine px_ex hH hs hp (by omega) (by omega) ?_
      rw [ht, e, en_3]
      exact br_f (by decide) (br_t rfl (br_f (en_n2 (by omega)) (br_f (by decide) (br_f (by decide) (br_f (nI_pos (by omega)) (px_push m (s + 1) p (nI_1 s) rfl (by omega) hl1 h))))))
    · refine py_vi hH hs hp (by omega) (by omega) ?_
      rw [ht, e, en_3]
      exact br_f (by decide) (br_t rfl (br_t (nI_pos' (by omega)) (br_f (nI_pos (by omega)) (br_f (by decide) (br_f (by decide) (br_f (by decide) (py_task m (s + 1) p (nI_1 s) rfl (by omega) h)))))))
theorem ps_opt (hH : pt_H gt gn gz T L gm tk af rs oc tok len nxt dos) (hS : pg_St gt gn gz T L m n ss sp sd tc tp td sl pl) (hN : pg_N n nr ns ne nd kp) (hn : n < 30) (hok : pg_OK gt gn gz T L m n s p) (hb : pg_S gn T sl pl m + pg_pot gn T s p + (30 - n) * 1260 ≤ M + 1) (ht : gt s = 14) : pt_Res gt gn gz T L pc ln pd pa tk af rs tx oc yl tok len nxt dos ag M (fun post => wpX_expand post (pc, ln, nI n, nI m, pd, pa, tk, af, rs, tx, oc, nr, ns, ne, nd, ss, sp, sd) (nI s) (nI p) d) (fun post => wpY_visit post (yl, nI m, nI n, tok, len, nxt, tx, dos, ag, tc, tp, td, kp) (nI s) (nI p) d) := by
  have hH' := hH
  obtain ⟨hw, hL, hGX, hGY, hB, hO, hD, hF⟩ := hH'
  obtain ⟨hs, hp, hv, hh⟩ := hok
  have hs1 := hs.1
  have l1 := (pg_lv_1 hw hs (by omega) (by omega)).1
  have hl1 := l1.1
  have g0 := (hw.2 s hs).1
  have g1 := (hw.2 _ l1).1
  have g3 := (hw.2 s hs).2.2.2.1 (by omega) (by omega)
  have hb1 := pg_bx hB hL l1 hp
  have e0 := hF s p hs hp
  rw [pF_14 ht] at e0
  have hpos : 1 ≤ pg_pot gn T s p := pg_f_pos (by omega)
  rcases pg_bd3 hb1 with e | e | ⟨j, j1, j2, e⟩
  · rw [e] at e0; simp at e0; omega
  · refine pt_0 hS hN (by omega) (by omega) (fun post h => ?_) (fun post h => ?_)
    · refine px_ex hH hs hp (by omega) (by omega) ?_
      rw [ht, e, en_1]
      exact br_f (by decide) (br_f (by decide) (br_f (by decide) (br_f (by decide) (br_t (by decide) h))))
    · refine py_vi hH hs hp (by omega) (by omega) ?_
      rw [ht, e, en_1]
      exact br_f (by decide) (br_f (by decide) (br_t (by decide) h))
  · rw [e, if_neg (by omega)] at e0
    have k1 : pg_pot gn T (s + 1) p = pg_f (gn (s + 1) - (s + 1)) (T (17 * s + p) - 3 - p) := pg_pot_eq rfl (by rw [e0, e])
    have hq := pg_f_one (z := gn s - s) (z1 := gn (s + 1) - (s + 1)) (l := T (17 * s + p) - 3 - p) (by omega)
    have k0 : pg_pot gn T s p = pg_f (gn s - s) (T (17 * s + p) - 3 - p) := rfl
    refine pt_1 (s1 := s + 1) (p1 := p) (d1 := d) hS hN (by omega) ⟨l1, hp, Or.inl (by omega), by omega⟩ (by omega) (fun post h => ?_) (fun post h => ?_)
    · refine px_ex hH hs hp (by omega) (by omega) ?_
      rw [ht, e, en_3]
      exact br_f (by decide) (br_f (by decide) (br_f (by decide) (br_f (by decide) (br_f (nI_pos (by omega)) (px_push m (s + 1) p (nI_1 s) rfl (by omega) hl1 h)))))
    · refine py_vi hH hs hp (by omega) (by omega) ?_
      rw [ht, e, en_3]
      exact br_f (by decide) (br_f (by decide) (br_f (nI_pos (by omega)) (br_f (by decide) (br_f (by decide) (br_f (by decide) (py_task m (s + 1) p (nI_1 s) rfl (by omega) h))))))
theorem pq_m2 {p : Nat} (h : p < 2 ^ 31) : (-2 : Int32) ≤ nI p := Int32.le_trans (show (-2 : Int32) ≤ 0 from by decide) (nI_pos' h)
theorem ps_rep (hH : pt_H gt gn gz T L gm tk af rs oc tok len nxt dos) (hS : pg_St gt gn gz T L m n ss sp sd tc tp td sl pl) (hN : pg_N n nr ns ne nd kp) (hn : n < 30) (hok : pg_OK gt gn gz T L m n s p) (hb : pg_S gn T sl pl m + pg_pot gn T s p + (30 - n) * 1260 ≤ M + 1) (ht : gt s = 12 ∨ gt s = 13) : pt_Res gt gn gz T L pc ln pd pa tk af rs tx oc yl tok len nxt dos ag M (fun post => wpX_expand post (pc, ln, nI n, nI m, pd, pa, tk, af, rs, tx, oc, nr, ns, ne, nd, ss, sp, sd) (nI s) (nI p) d) (fun post => wpY_visit post (yl, nI m, nI n, tok, len, nxt, tx, dos, ag, tc, tp, td, kp) (nI s) (nI p) d) := by
  have hH' := hH
  obtain ⟨hw, hL, hGX, hGY, hB, hO, hD, hF⟩ := hH'
  obtain ⟨hs, hp, hv, hh⟩ := hok
  have hs1 := hs.1
  have l1 := (pg_lv_1 hw hs (by omega) (by omega)).1
  have hl1 := l1.1
  have g0 := (hw.2 s hs).1
  have g1 := (hw.2 _ l1).1
  have g3 := (hw.2 s hs).2.2.2.1 (by omega) (by omega)
  have hb1 := pg_bx hB hL l1 hp
  have e0 := hF s p hs hp
  rw [pF_12 ht] at e0
  unfold pg_R at e0
  have hpos : 1 ≤ pg_pot gn T s p := pg_f_pos (by omega)
  rcases pg_bd3 hb1 with e | e | ⟨j, j1, j2, e⟩
  · rw [e] at e0; simp at e0; omega
  · refine pt_0 hS hN (by omega) (by omega) (fun post h => ?_) (fun post h => ?_)
    · refine px_ex hH hs hp (by omega) (by omega) ?_
      rcases ht with ht | ht
      · rw [ht, e, en_1]
        exact br_f (by decide) (br_f (by decide) (br_t (by decide) (br_t (pq_m2 (by omega)) (br_t (by decide) h))))
      · rw [ht, e, en_1]
        exact br_f (by decide) (br_f (by decide) (br_f (by decide) (br_t (by decide) (br_t (pq_m2 (by omega)) (br_t (by decide) h)))))
    · refine py_vi hH hs hp (by omega) (by omega) ?_
      rcases ht with ht | ht
      · rw [ht, e, en_1]
        exact br_f (by decide) (br_f (by decide) (br_t (by decide) h))
      · rw [ht, e, en_1]
        exact br_f (by decide) (br_f (by decide) (br_t (by decide) h))
  · rw [e, if_neg (by omega), if_neg (by omega), Nat.add_sub_cancel] at e0
    by_cases jp : j = p
    · rw [if_pos (by omega)] at e0
      have k1 : pg_pot gn T (s + 1) p = pg_f (gn (s + 1) - (s + 1)) (T (17 * s + p) - 3 - p) := pg_pot_eq rfl (by rw [e0, e, jp])
      have hq := pg_f_one (z := gn s - s) (z1 := gn (s + 1) - (s + 1)) (l := T (17 * s + p) - 3 - p) (by omega)
      have k0 : pg_pot gn T s p = pg_f (gn s - s) (T (17 * s + p) - 3 - p) := rfl
      refine pt_1 (s1 := s + 1) (p1 := p) (d1 := d) hS hN (by omega) ⟨l1, hp, Or.inl (by omega), by omega⟩ (by omega) (fun post h => ?_) (fun post h => ?_)
      · have hx : wX_expand_112 post (nI s) (nI p) d (nI p) pc ln (nI n) (nI m) pd pa tk af rs tx oc nr ns ne nd ss sp sd := br_t (nI_le (Nat.le_refl p) (by omega)) (br_f (nI_pos (by omega)) (px_push m (s + 1) p (nI_1 s) rfl (by omega) hl1 h))
        refine px_ex hH hs hp (by omega) (by omega) ?_
        rcases ht with ht | ht
        · rw [ht, e, en_3, jp]
          exact br_f (by decide) (br_f (by decide) (br_t (by decide) hx))
        · rw [ht, e, en_3, jp]
          exact br_f (by decide) (br_f (by decide) (br_f (by decide) (br_t (by decide) hx)))
      · have hy : wY_visit_186 post (nI s) (nI p) d (nI p) yl (nI m) (nI n) tok len nxt tx dos ag tc tp td kp := br_t rfl (py_task m (s + 1) p (nI_1 s) rfl (by omega) h)
        refine py_vi hH hs hp (by omega) (by omega) ?_
        rcases ht with ht | ht
        · rw [ht, e, en_3, jp]
          exact br_f (by decide) (br_f (by decide) (br_f (nI_pos (by omega)) (br_f (by decide) (br_t (by decide) hy))))
        · rw [ht, e, en_3, jp]
          exact br_f (by decide) (br_f (by decide) (br_f (nI_pos (by omega)) (br_f (by decide) (br_f (by decide) (br_t (by decide) hy)))))
    · rw [if_neg (by omega)] at e0
      have hb2 := pg_bx hB hL hs j2
      have hr13 : T (17 * s + j) = 1 → gt s = 13 := by
        intro e1
        rcases ht with ht | ht
        · have e2 := hF s j hs j2
          rw [pF_12 (Or.inl ht), ht, e1] at e2
          exact absurd e2.symm pn_R12
        · exact ht
      have hcase : (T (17 * s + j) = 1 ∧ T (17 * s + p) = j + 3) ∨ (j + 3 ≤ T (17 * s + j) ∧ T (17 * s + p) = T (17 * s + j)) := by
        unfold pg_bd at hb2
        by_cases e1 : T (17 * s + j) = 1
        · rw [if_pos e1] at e0; exact Or.inl ⟨e1, e0⟩
        · rw [if_neg e1] at e0; exact Or.inr ⟨by omega, e0⟩
      have k2 : pg_pot gn T s j = pg_f (gn (s + 1) - (s + 1) + 1) (T (17 * s + j) - 3 - j) := pg_pot_eq (by omega) rfl
      have k1 : pg_pot gn T (s + 1) p = pg_f (gn (s + 1) - (s + 1)) (j - p) := pg_pot_eq rfl (by rw [e]; omega)
      have k0 : pg_pot gn T s p = pg_f (gn (s + 1) - (s + 1) + 1) ((j - p) + (T (17 * s + j) - 3 - j)) := pg_pot_eq (by omega) (by omega)
      have hq := pg_f_rep (z := gn (s + 1) - (s + 1)) (l1 := j - p) (l2 := T (17 * s + j) - 3 - j) (by omega)
      refine pt_2 (s2 := s) (p2 := j) (s1 := s + 1) (p1 := p) (d1 := d) (d2 := d) hS hN (by omega) ⟨hs, j2, by omega, by omega⟩ ⟨l1, hp, Or.inl (by omega), by omega⟩ (by omega) (fun post h => ?_) (fun post h => ?_)
      · have hx : wX_expand_112 post (nI s) (nI p) d (nI j) pc ln (nI n) (nI m) pd pa tk af rs tx oc nr ns ne nd ss sp sd := br_f (nI_ge (by omega) (by omega)) (px_push m s j rfl rfl (by omega) hs1 (br_f (nI_pos (by omega)) (px_push (m + 1) (s + 1) p (nI_1 s) rfl (by omega) hl1 h)))
        refine px_ex hH hs hp (by omega) (by omega) ?_
        rcases ht with ht | ht
        · rw [ht, e, en_3]
          exact br_f (by decide) (br_f (by decide) (br_t (by decide) hx))
        · rw [ht, e, en_3]
          exact br_f (by decide) (br_f (by decide) (br_f (by decide) (br_t (by decide) hx)))
      · have hy : wY_visit_186 post (nI s) (nI p) d (nI j) yl (nI m) (nI n) tok len nxt tx dos ag tc tp td kp := pk_eq j p (fun e => absurd e jp) (fun _ => py_task m s j rfl rfl (by omega) (py_task (m + 1) (s + 1) p (nI_1 s) rfl (by omega) h))
        refine py_vi hH hs hp (by omega) (by omega) ?_
        rcases ht with ht | ht
        · rw [ht, e, en_3]
          exact br_f (by decide) (br_f (by decide) (br_f (nI_pos (by omega)) (br_f (by decide) (br_t (by decide) hy))))
        · rw [ht, e, en_3]
          exact br_f (by decide) (br_f (by decide) (br_f (nI_pos (by omega)) (br_f (by decide) (br_f (by decide) (br_t (by decide) hy)))))
theorem ps_rule (hH : pt_H gt gn gz T L gm tk af rs oc tok len nxt dos) (hS : pg_St gt gn gz T L m n ss sp sd tc tp td sl pl) (hN : pg_N n nr ns ne nd kp) (hn : n < 30) (hok : pg_OK gt gn gz T L m n s p) (hb : pg_S gn T sl pl m + pg_pot gn T s p + (30 - n) * 1260 ≤ M + 1) (ht : 20 ≤ gt s ∧ gt s ≤ 23) : pt_Res gt gn gz T L pc ln pd pa tk af rs tx oc yl tok len nxt dos ag M (fun post => wpX_expand post (pc, ln, nI n, nI m, pd, pa, tk, af, rs, tx, oc, nr, ns, ne, nd, ss, sp, sd) (nI s) (nI p) d) (fun post => wpY_visit post (yl, nI m, nI n, tok, len, nxt, tx, dos, ag, tc, tp, td, kp) (nI s) (nI p) d) := by
  have hH' := hH
  obtain ⟨hw, hL, hGX, hGY, hB, hO, hD, hF⟩ := hH'
  obtain ⟨hs, hp, hv, hh⟩ := hok
  have hs1 := hs.1
  have g0 := (hw.2 s hs).1
  have e0 := hF s p hs hp
  rw [pF_20 ht] at e0
  have hpos : 1 ≤ pg_pot gn T s p := pg_f_pos (by omega)
  by_cases z : gz (gt s - 20) = 0
  · rw [if_pos z] at e0; omega
  rw [if_neg z] at e0
  have lr := pg_lv_r hw (r := gt s - 20) (by omega) z
  have hlr := lr.1
  have hz := hw.1 (gt s - 20) (by omega)
  have gr := (hw.2 _ lr).1
  have er : 12 * (gt s - 20) / 12 = gt s - 20 := by omega
  rw [er] at gr
  have hb1 := pg_bx hB hL lr hp
  unfold pg_bd at hb1
  have hq : pg_pot gn T (12 * (gt s - 20)) p ≤ 1260 := pg_f_12 (by omega) (by omega)
  have e20 : nI (gt s) - 20 = nI (gt s - 20) := pk_sub (b := 20) (by omega)
  refine pt_0 (n := n + 1) (m := m + 1) (pg_St_push (d := d + 1) (s := 12 * (gt s - 20)) (p := p) (pg_St_mono (Nat.le_succ n) (Nat.le_refl m) hS) ⟨lr, hp, Or.inl (by omega), by omega⟩) (pg_N_add (a := nI (gt s - 20)) (b := nI p) (c := pg_en (T (17 * s + p))) (d := d) hN) (by omega) (by rw [pg_S_push]; omega) (fun post h => ?_) (fun post h => ?_)
  · refine ⟨vp_in_nI hs1 (by decide), nm_r (e' := nI (gt s)) (by rw [nI_clamp (by omega)]; exact (hGX.1 _ hs).1) ?_⟩
    refine br_f (nI_nlt (b := 20) (by omega) (by omega)) (br_f (nI_ge (b := 24) (by omega) (by omega)) (br_f (by decide) ?_))
    exact px_addNode m n (gt s - 20) p (gz (gt s - 20)) _ e20 rfl (by omega) hn (by omega) (by omega) (hGX.2 _ (by omega)) z hz (by rw [hO _ _ lr hp, e0]) h
  · refine ⟨vp_in_nI (by omega) (by decide), nm_r (e' := nI (gt s)) (by rw [nI_clamp (by omega)]; exact (hGY.1 _ hs).1) ?_⟩
    refine br_f (nI_nlt (b := 10) (by omega) (by omega)) (br_t (nI_lt (a := 16) (by omega) (by omega)) (br_f (nI_nlt (b := 20) (by omega) (by omega)) (br_f (nI_nlt (a := 23) (by omega) (by omega)) ?_)))
    rw [pq_17, nI_clamp (by omega), hD _ _ hs hp, e20]
    refine ⟨vp_in_nI (by omega) (by decide), py_keep n hn (py_task m (12 * (gt s - 20)) p ?_ rfl (by omega) h)⟩
    rw [show (12 : Int32) = nI 12 from rfl, pk_mul]
theorem ps_step (hH : pt_H gt gn gz T L gm tk af rs oc tok len nxt dos) (hS : pg_St gt gn gz T L m n ss sp sd tc tp td sl pl) (hN : pg_N n nr ns ne nd kp) (hn : n < 30) (hok : pg_OK gt gn gz T L m n s p) (hb : pg_S gn T sl pl m + pg_pot gn T s p + (30 - n) * 1260 ≤ M + 1) : pt_Res gt gn gz T L pc ln pd pa tk af rs tx oc yl tok len nxt dos ag M (fun post => wpX_expand post (pc, ln, nI n, nI m, pd, pa, tk, af, rs, tx, oc, nr, ns, ne, nd, ss, sp, sd) (nI s) (nI p) d) (fun post => wpY_visit post (yl, nI m, nI n, tok, len, nxt, tx, dos, ag, tc, tp, td, kp) (nI s) (nI p) d) := by
  have htv := (hH.1.2 s hok.1).2.1
  unfold pg_tv at htv
  by_cases t10 : gt s = 10
  · exact ps_seq hH hS hN hn hok hb t10
  by_cases t11 : gt s = 11
  · exact ps_cho hH hS hN hn hok hb t11
  by_cases t12 : gt s = 12 ∨ gt s = 13
  · exact ps_rep hH hS hN hn hok hb t12
  by_cases t14 : gt s = 14
  · exact ps_opt hH hS hN hn hok hb t14
  by_cases t20 : 20 ≤ gt s ∧ gt s ≤ 23
  · exact ps_rule hH hS hN hn hok hb t20
  exact ps_leaf hH hS hN hn hok hb (by omega)
end

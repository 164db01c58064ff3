theorem pi_3 {x : Int32} (h1 : ¬ x < 0) (h : x < 0 ∨ nI 4 ≤ x) : (3 : Int32) < x := by
  rcases h with h | h
  · exact absurd h h1
  · exact Int32.lt_of_lt_of_le (show (3 : Int32) < nI 4 from by decide) h
theorem i_vc_parse {k : Nat} {u : SX} {v : SY} (I : i_Rel k u v) (hk : k + 5 ≤ 2560) (v1 : Int32) (v2 : Int32) : wpX_parse (fun r u' => wpY_parse (fun r' v' => r' = r ∧ i_Rel (k + 5) u' v') v v1 v2) u v1 v2 := by
  have I2 := i_up I
  obtain ⟨_, q, L, n, gt, gn, gz, sc, yt, pd, pa, tk, af, rs, tx, oc, nr, ns, ne, nd, ss, sp, sd, tok, len, nxt, dos, ag, tc, tp, td, kp, rfl, rfl, hI⟩ := I
  obtain ⟨h1, hL, h3, hw, hGX, hGY, hX, h8, h9⟩ := hI
  unfold wpX_parse
  rcases pi_ix v1 (n := 4) (by omega) with h | ⟨r, hr, rfl⟩
  · refine px_iRf h (br_t rfl ?_)
    exact br_c (fun _ => ⟨rfl, I2⟩) (fun g => br_t (pi_3 g h) ⟨rfl, I2⟩)
  refine px_iRt hr (br_f (by decide) ?_)
  rcases pi_ix v2 (n := L + 1) (by omega) with h | ⟨p, hp, rfl⟩
  · refine br_c (fun g => ?_) (fun g => ?_)
    · exact br_f (nI_pos (by omega)) (br_f (nI_nlt (a := 3) (by omega) (by omega)) (br_t g ⟨rfl, I2⟩))
    · have h2 : ¬ v2 ≤ nI L := by
        rcases h with h | h
        · exact absurd h g
        · exact Int32.not_le.mpr (Int32.lt_of_lt_of_le (nI_lt (by omega) (by omega)) h)
      exact br_f h2 (br_f (nI_pos (by omega)) (br_f (nI_nlt (a := 3) (by omega) (by omega)) (br_f g (br_f h2 ⟨rfl, I2⟩))))
  have hpL : p ≤ L := by omega
  obtain ⟨oc', T, gX, hTX, fX, hset⟩ := px_settle (pc := nI q) (nc := nI n) (sc := sc) (pd := pd) (pa := pa) (nr := nr) (ns := ns) (ne := ne) (nd := nd) (ss := ss) (sp := sp) (sd := sd) (tx := tx) hw hL rfl hGX oc
  refine br_f (nI_pos (by omega)) (br_t (nI_le hpL (by omega)) (hset _ ?_))
  have hz := hw.1 r hr
  refine px_rO r p (gz r) rfl rfl hr (by omega) (hGX.2 r hr) hz ?_
  have hy : ∀ {post : Int32 → SY → Prop}, (gz r = 0 → post (-2) (nI L, yt, 0, tok, len, nxt, tx, dos, ag, tc, tp, td, kp)) → (gz r ≠ 0 → wpY_table (fun u => match u with | (yl, yt, yk, tok, len, nxt, tx, dos, ag, tc, tp, td, kp) => vp_in ((204 * nI r) + nI p) 816 ∧ (∀ x3_22 : Int32, x3_22 = dos ((204 * nI r) + nI p).toNatClampNeg → (((x3_22 < 0 → (post x3_22 (yl, yt, yk, tok, len, nxt, tx, dos, ag, tc, tp, td, kp))) ∧ (¬ x3_22 < 0 → (wpY_tree (fun u => match u with | (yl, yt, yk, tok, len, nxt, tx, dos, ag, tc, tp, td, kp) => (post x3_22 (yl, yt, yk, tok, len, nxt, tx, dos, ag, tc, tp, td, kp))) (yl, yt, yk, tok, len, nxt, tx, dos, ag, tc, tp, td, kp) (nI r) (nI p) x3_22)))))) (nI L, yt, 0, tok, len, nxt, tx, dos, ag, tc, tp, td, kp)) → wpY_parse post (nI L, yt, nI n, tok, len, nxt, tx, dos, ag, tc, tp, td, kp) (nI r) (nI p) := by
    intro post ha hb
    refine br_f (nI_pos (by omega)) (br_f (nI_nlt (a := 3) (by omega) (by omega)) (br_f (nI_pos (by omega)) (br_t (nI_le hpL (by omega)) ⟨vp_in_nI (by omega) (by decide), ?_⟩)))
    rw [nI_clamp (by omega), hGY.2 r hr]
    by_cases z : gz r = 0
    · exact br_t (by rw [z]; rfl) (ha z)
    · exact br_f (nI_ne0 (by omega) (by omega)) (hb z)
  by_cases z : gz r = 0
  · rw [if_pos z]
    refine br_t (by decide) (hy (fun _ => ⟨rfl, ?_⟩) (fun z2 => absurd z z2))
    exact pi_mk (n := 0) ⟨h1, hL, by omega, hw, hGX, hGY, hX, fun i hi => absurd hi (by omega), h9⟩
  rw [if_neg z]
  have lr := pg_lv_r hw hr z
  have hlr := lr.1
  rw [hTX _ (by omega)]
  obtain ⟨dos', ag', TY, gY, hTY, fY, htab⟩ := py_table (yl := nI L) (yt := yt) (yk := 0) (tok := tok) (len := len) (nxt := nxt) (tx := tx) (tc := tc) (tp := tp) (td := td) (kp := kp) hw hL rfl hX hGY dos ag
  have hD : ∀ s p, pg_lv gz s → p ≤ L → dos' (17 * s + p) = pg_en (T (17 * s + p)) := by
    intro s p hs hp
    have hs1 := hs.1
    rw [hTY.1 _ (by omega), pg_same hw hL gX fX gY fY hs hp]
  have hH : pt_H gt gn gz T L (pg_m gt tx L) tk af rs oc' tok len nxt dos' := ⟨hw, hL, hGX, hGY, gX.1, fun s p hs hp => hTX _ (by have := hs.1; omega), hD, fun s p hs hp => pg_fx hL fX hs hp⟩
  have e204 : 204 * nI r + nI p = nI (17 * (12 * r) + p) := by
    rw [show (204 : Int32) = nI 204 from rfl, pk_mul, nI_add]; exact congrArg nI (by omega)
  have hN0 : ∀ kp nr ns ne nd, pg_N 0 nr ns ne nd kp := fun _ _ _ _ _ i hi => absurd hi (by omega)
  have hb := pg_bx gX.1 hL lr hpL
  have low : T (17 * (12 * r) + p) < 2 → pg_en (T (17 * (12 * r) + p)) < 0 := by
    intro h
    have h2 : T (17 * (12 * r) + p) = 0 ∨ T (17 * (12 * r) + p) = 1 := by omega
    rcases h2 with h2 | h2
    · rw [h2]; decide
    · rw [h2]; decide
  rcases pg_bd3 hb with e | e | ⟨j, j1, j2, e⟩
  · refine br_t (low (by omega)) (hy (fun z2 => absurd z2 z) (fun _ => htab _ ⟨?_, nm_r (e' := pg_en (T (17 * (12 * r) + p))) ?_ (br_t (low (by omega)) ⟨rfl, pi_mk (n := 0) ⟨h1, hL, by omega, hw, hGX, hGY, hX, hN0 _ _ _ _ _, h9⟩⟩)⟩))
    · rw [e204]; exact vp_in_nI (by omega) (by decide)
    · rw [e204, nI_clamp (by omega)]; exact hD _ _ lr hpL
  · refine br_t (low (by omega)) (hy (fun z2 => absurd z2 z) (fun _ => htab _ ⟨?_, nm_r (e' := pg_en (T (17 * (12 * r) + p))) ?_ (br_t (low (by omega)) ⟨rfl, pi_mk (n := 0) ⟨h1, hL, by omega, hw, hGX, hGY, hX, hN0 _ _ _ _ _, h9⟩⟩)⟩))
    · rw [e204]; exact vp_in_nI (by omega) (by decide)
    · rw [e204, nI_clamp (by omega)]; exact hD _ _ lr hpL
  · have hge : ¬ pg_en (T (17 * (12 * r) + p)) < 0 := by rw [e, en_3]; exact nI_pos (by omega)
    obtain ⟨n', m', nr', ns', ne', nd', ss', sp', sd', tc', tp', td', kp', b1, b2, b3, b4⟩ := pt_tree (pc := nI q) (ln := nI L) (pd := pd) (pa := pa) (tx := tx) (yl := nI L) (ag := ag') hH hr z hpL (by omega) sc yt nr ns ne nd ss sp sd tc tp td kp
    refine br_f hge (b3 _ (hy (fun z2 => absurd z2 z) (fun _ => htab _ ⟨?_, nm_r (e' := pg_en (T (17 * (12 * r) + p))) ?_ (br_f hge (b4 _ ⟨rfl, pi_mk ⟨h1, hL, b2, hw, hGX, hGY, hX, b1, h9⟩⟩))⟩)))
    · rw [e204]; exact vp_in_nI (by omega) (by decide)
    · rw [e204, nI_clamp (by omega)]; exact hD _ _ lr hpL

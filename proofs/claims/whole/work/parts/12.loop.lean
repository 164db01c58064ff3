section
variable {gt gn gz T : Nat → Nat} {L : Nat} {gm : Nat → Nat → Bool} {pc ln : Int32} {pd pa tk af rs tx oc : Nat → Int32} {yl : Int32} {tok len nxt dos ag : Nat → Int32}
theorem pt_loop (hH : pt_H gt gn gz T L gm tk af rs oc tok len nxt dos) : ∀ (M n m t : Nat) (nr ns ne nd ss sp sd tc tp td kp : Nat → Int32) (sl pl : Nat → Nat), pg_St gt gn gz T L m n ss sp sd tc tp td sl pl → pg_N n nr ns ne nd kp → n ≤ 30 → pg_S gn T sl pl m + (30 - n) * 1260 ≤ M → t + M < 40000 → ∃ (n' m' : Nat) (nr' ns' ne' nd' ss' sp' sd' tc' tp' td' kp' : Nat → Int32), pg_N n' nr' ns' ne' nd' kp' ∧ n' ≤ 30 ∧ (∀ (post : SX → Prop) (k : Nat), M < k → post (pc, ln, nI n', nI m', pd, pa, tk, af, rs, tx, oc, nr', ns', ne', nd', ss', sp', sd') → wX_buildTree_14 post k (nI t) pc ln (nI n) (nI m) pd pa tk af rs tx oc nr ns ne nd ss sp sd) ∧ (∀ (post : SY → Prop) (k : Nat), M < k → post (yl, nI m', nI n', tok, len, nxt, tx, dos, ag, tc', tp', td', kp') → wY_tree_26 post k (nI t) yl (nI m) (nI n) tok len nxt tx dos ag tc tp td kp) := by
  intro M
  induction M with
  | zero =>
    intro n m t nr ns ne nd ss sp sd tc tp td kp sl pl hS hN hn hb ht
    have hn30 : n = 30 := by omega
    refine ⟨n, m, nr, ns, ne, nd, ss, sp, sd, tc, tp, td, kp, hN, hn, fun post k hk h => ?_, fun post k hk h => ?_⟩
    · obtain ⟨k, rfl⟩ : ∃ k', k = k' + 1 := ⟨k - 1, by omega⟩
      exact br_f (nI_ge (b := 1000000) (by omega) (by omega)) (br_c (fun _ => h) (fun _ => br_t (nI_le (a := 30) (by omega) (by omega)) h))
    · obtain ⟨k, rfl⟩ : ∃ k', k = k' + 1 := ⟨k - 1, by omega⟩
      exact br_f (nI_ge (b := 40000) (by omega) (by omega)) (br_c (fun _ => h) (fun _ => br_t (nI_le (a := 30) (by omega) (by omega)) h))
  | succ M ih =>
    intro n m t nr ns ne nd ss sp sd tc tp td kp sl pl hS hN hn hb ht
    by_cases hn30 : n = 30
    · refine ⟨n, m, nr, ns, ne, nd, ss, sp, sd, tc, tp, td, kp, hN, hn, fun post k hk h => ?_, fun post k hk h => ?_⟩
      · obtain ⟨k, rfl⟩ : ∃ k', k = k' + 1 := ⟨k - 1, by omega⟩
        exact br_f (nI_ge (b := 1000000) (by omega) (by omega)) (br_c (fun _ => h) (fun _ => br_t (nI_le (a := 30) (by omega) (by omega)) h))
      · obtain ⟨k, rfl⟩ : ∃ k', k = k' + 1 := ⟨k - 1, by omega⟩
        exact br_f (nI_ge (b := 40000) (by omega) (by omega)) (br_c (fun _ => h) (fun _ => br_t (nI_le (a := 30) (by omega) (by omega)) h))
    cases m with
    | zero =>
      refine ⟨n, 0, nr, ns, ne, nd, ss, sp, sd, tc, tp, td, kp, hN, hn, fun post k hk h => ?_, fun post k hk h => ?_⟩
      · obtain ⟨k, rfl⟩ : ∃ k', k = k' + 1 := ⟨k - 1, by omega⟩
        exact br_f (nI_ge (b := 1000000) (by omega) (by omega)) (br_t (by decide) h)
      · obtain ⟨k, rfl⟩ : ∃ k', k = k' + 1 := ⟨k - 1, by omega⟩
        exact br_f (nI_ge (b := 40000) (by omega) (by omega)) (br_t (by decide) h)
    | succ m =>
      obtain ⟨h1, h2, h3, h4, h5, hok⟩ := hS m (by omega)
      have hsz := (hH.1.2 _ hok.1).1
      have hht := hok.2.2.2
      have hSe : pg_S gn T sl pl (m + 1) = pg_S gn T sl pl m + pg_pot gn T (sl m) (pl m) := rfl
      obtain ⟨n2, m2, nr2, ns2, ne2, nd2, ss2, sp2, sd2, tc2, tp2, td2, kp2, sl2, pl2, a1, a2, a3, a4, a5, a6⟩ := ps_step (M := M) (d := sd m) (pc := pc) (ln := ln) (pd := pd) (pa := pa) (tx := tx) (yl := yl) (ag := ag) hH (pg_St_mono (Nat.le_refl n) (Nat.le_succ m) hS) hN (by omega) hok (by omega)
      obtain ⟨n', m', nr', ns', ne', nd', ss', sp', sd', tc', tp', td', kp', b1, b2, b3, b4⟩ := ih n2 m2 (t + 1) nr2 ns2 ne2 nd2 ss2 sp2 sd2 tc2 tp2 td2 kp2 sl2 pl2 a1 a2 a3 a4 (by omega)
      refine ⟨n', m', nr', ns', ne', nd', ss', sp', sd', tc', tp', td', kp', b1, b2, fun post k hk h => ?_, fun post k hk h => ?_⟩
      · obtain ⟨k, rfl⟩ : ∃ k', k = k' + 1 := ⟨k - 1, by omega⟩
        refine br_f (nI_ge (b := 1000000) (by omega) (by omega)) (br_f (nI_nle (by omega) (by omega)) (br_f (nI_ge (b := 30) (by omega) (by omega)) (nm_r (nI_pred m) ⟨vp_in_nI (by omega) (by decide), vp_in_nI (by omega) (by decide), vp_in_nI (by omega) (by decide), ?_⟩)))
        rw [nI_clamp (by omega), h1, h2]
        exact a5 _ (nm_r (nI_1 t) (b3 post k (by omega) h))
      · obtain ⟨k, rfl⟩ : ∃ k', k = k' + 1 := ⟨k - 1, by omega⟩
        refine br_f (nI_ge (b := 40000) (by omega) (by omega)) (br_f (nI_nle (by omega) (by omega)) (br_f (nI_ge (b := 30) (by omega) (by omega)) (nm_r (nI_pred m) ⟨vp_in_nI (by omega) (by decide), vp_in_nI (by omega) (by decide), vp_in_nI (by omega) (by decide), ?_⟩)))
        rw [nI_clamp (by omega), h3, h4, ← h5]
        exact a6 _ (nm_r (nI_1 t) (b4 post k (by omega) h))
theorem pt_tree (hH : pt_H gt gn gz T L gm tk af rs oc tok len nxt dos) {r p : Nat} (hr : r < 4) (hz0 : gz r ≠ 0) (hp : p ≤ L) (hv : 3 ≤ T (17 * (12 * r) + p)) (sc yt : Int32) (nr ns ne nd ss sp sd tc tp td kp : Nat → Int32) : ∃ (n' m' : Nat) (nr' ns' ne' nd' ss' sp' sd' tc' tp' td' kp' : Nat → Int32), pg_N n' nr' ns' ne' nd' kp' ∧ n' ≤ 30 ∧ (∀ (post : SX → Prop), post (pc, ln, nI n', nI m', pd, pa, tk, af, rs, tx, oc, nr', ns', ne', nd', ss', sp', sd') → wpX_buildTree post (pc, ln, 0, sc, pd, pa, tk, af, rs, tx, oc, nr, ns, ne, nd, ss, sp, sd) (nI r) (nI p)) ∧ (∀ (post : SY → Prop), post (yl, nI m', nI n', tok, len, nxt, tx, dos, ag, tc', tp', td', kp') → wpY_tree post (yl, yt, 0, tok, len, nxt, tx, dos, ag, tc, tp, td, kp) (nI r) (nI p) (pg_en (T (17 * (12 * r) + p)))) := by
  obtain ⟨hw, hL, hGX, hGY, hB, hO, hD, hF⟩ := id hH
  have lr := pg_lv_r hw hr hz0
  have hz := hw.1 r hr
  have gr := (hw.2 _ lr).1
  have er : 12 * r / 12 = r := by omega
  rw [er] at gr
  have hb1 := pg_bx hB hL lr hp
  unfold pg_bd at hb1
  have hq : pg_pot gn T (12 * r) p ≤ 1260 := pg_f_12 (by omega) (by omega)
  have hS0 : pg_St gt gn gz T L 0 1 ss sp sd tc tp td (fun _ => 0) (fun _ => 0) := fun h hh => absurd hh (by omega)
  have hN0 : pg_N 0 nr ns ne nd kp := fun h hh => absurd hh (by omega)
  have hS1 := pg_St_push (d := (1 : Int32)) hS0 (s := 12 * r) (p := p) ⟨lr, hp, Or.inl hv, by omega⟩
  have hN1 := pg_N_add (a := nI r) (b := nI p) (c := pg_en (T (17 * (12 * r) + p))) (d := 0) hN0
  obtain ⟨n', m', nr', ns', ne', nd', ss', sp', sd', tc', tp', td', kp', b1, b2, b3, b4⟩ := pt_loop (pc := pc) (ln := ln) (pd := pd) (pa := pa) (tx := tx) (yl := yl) (ag := ag) hH 37800 (0 + 1) (0 + 1) 0 _ _ _ _ _ _ _ _ _ _ _ _ _ hS1 hN1 (by omega) (by rw [pg_S_push]; show 0 + _ + _ ≤ _; omega) (by omega)
  refine ⟨n', m', nr', ns', ne', nd', ss', sp', sd', tc', tp', td', kp', b1, b2, fun post h => ?_, fun post h => ?_⟩
  · unfold wpX_buildTree
    refine px_addNode 0 0 r p (gz r) _ rfl rfl (by omega) (by omega) hr (by omega) (hGX.2 _ hr) hz0 hz (hO _ _ lr hp) ?_
    exact ⟨37801, b3 post 37801 (by omega) h⟩
  · unfold wpY_tree
    refine py_keep 0 (by omega) ?_
    refine py_task 0 (12 * r) p ?_ rfl (by omega) ?_
    · rw [show (12 : Int32) = nI 12 from rfl, pk_mul]
    · exact ⟨37801, b4 post 37801 (by omega) h⟩
end

theorem i_vc_define {k : Nat} {u : SX} {v : SY} (I : i_Rel k u v) (hk : k + 5 ≤ 2560) (v1 : Int32) : wpX_define (fun r u' => wpY_define (fun r' v' => r' = r ∧ i_Rel (k + 5) u' v') v v1) u v1 := by
  obtain ⟨_, q, L, n, gt, gn, gz, sc, yt, pd, pa, tk, af, rs, tx, oc, nr, ns, ne, nd, ss, sp, sd, tok, len, nxt, dos, ag, tc, tp, td, kp, rfl, rfl, hI⟩ := I
  obtain ⟨hq, hL, h3, hw, hGX, hGY, hX, h8, h9⟩ := hI
  obtain ⟨t, ht⟩ : ∃ t : Nat → Nat, ∀ i, i < q → pd i = nI (t i) ∧ tok (48 + i) = nI (t i) ∧ pg_tv (t i) := by
    refine ⟨fun i => (pd i).toNatClampNeg, fun i hi => ?_⟩
    obtain ⟨t, h1, h2, h4⟩ := h9.2 i hi
    have e : (pd i).toNatClampNeg = t := by rw [h2, nI_clamp (by unfold pg_tv at h1; omega)]
    show pd i = nI (pd i).toNatClampNeg ∧ tok (48 + i) = nI (pd i).toNatClampNeg ∧ pg_tv (pd i).toNatClampNeg
    rw [e]; exact ⟨h2, h4, h1⟩
  have hok : ∀ k, k < q → pd_bd q k (pd_E q t q k) ∧ pd_E q t q k = pd_ms q t (pd_E q t q) k := fun k hk => pd_E_ok q (Nat.le_refl q) k (by omega) hk
  obtain ⟨nxt1, s1, s2, s3⟩ := py_sv (yl := nI L) (yt := yt) (yk := nI n) (tok := tok) (len := len) (tx := tx) (dos := dos) (ag := ag) (tc := tc) (tp := tp) (td := td) (kp := kp) (l := 4) (by omega) hq h9.1 (fun i hi => (ht i hi).2) nxt
  have hYw : ∀ post : Int32 → SY → Prop, ((q = 0 ∨ pd_E q t q 0 = q) → wY_define_38 post v1 1 (nI L) yt (nI n) tok len nxt1 tx dos ag tc tp td kp) → (¬ (q = 0 ∨ pd_E q t q 0 = q) → wY_define_38 post v1 0 (nI L) yt (nI n) tok len nxt1 tx dos ag tc tp td kp) → wpY_define post (nI L, yt, nI n, tok, len, nxt, tx, dos, ag, tc, tp, td, kp) v1 := by
    intro post w1 w0
    unfold wpY_define
    refine s3 _ ?_
    show (len 4 = 0 → _) ∧ (¬ len 4 = 0 → _)
    rw [h9.1]
    refine pk_eq q 0 (fun a => w1 (Or.inl a)) (fun a => ?_)
    have e48 := s1 0 (by omega)
    show (nxt1 48 = 48 + nI q → _) ∧ (¬ nxt1 48 = 48 + nI q → _)
    rw [show nxt1 48 = pd_cy 48 (pd_E q t q 0) from e48, show (48 : Int32) + nI q = nI (48 + q) from by rw [show (48 : Int32) = nI 48 from rfl, nI_add]]
    have hb := (hok 0 (by omega)).1
    unfold pd_bd at hb
    by_cases z : pd_E q t q 0 = 0
    · rw [z, cy_0]
      exact br_f (fun e => nI_ne0 (by omega) (by omega) e.symm) (w0 (by omega))
    · rw [cy_1 z]
      exact pk_eq (48 + pd_E q t q 0) (48 + q) (fun e => w1 (Or.inr (by omega))) (fun e => w0 (by omega))
  have hI0 : ∀ pa' : Nat → Int32, i_Rel (k + 5) (nI 0, nI L, nI n, sc, pd, pa', tk, af, rs, tx, oc, nr, ns, ne, nd, ss, sp, sd) (nI L, yt, nI n, tok, upd len 4 0, nxt1, tx, dos, ag, tc, tp, td, kp) := by
    intro pa'
    refine pi_mk (q := 0) ⟨by omega, hL, h3, hw, hGX, ⟨fun s hs => ?_, fun r hr => ?_⟩, hX, h8, ⟨pk_us, fun k hk => absurd hk (by omega)⟩⟩
    · have hs1 := hs.1
      rw [s2 s (by omega)]; exact hGY.1 s hs
    · rw [pk_un (by omega)]; exact hGY.2 r hr
  have hY56 : ∀ post : Int32 → SY → Prop, post 0 (nI L, yt, nI n, tok, upd len 4 0, nxt1, tx, dos, ag, tc, tp, td, kp) → wY_define_57 post v1 0 (nI L) yt (nI n) tok len nxt1 tx dos ag tc tp td kp := by
    intro post h
    exact br_t rfl (nm_e ⟨pq_nb (x := 0) (by omega), h⟩)
  have hX25 : ∀ (post : Int32 → SX → Prop) (pa' : Nat → Int32), post 0 (nI 0, nI L, nI n, sc, pd, pa', tk, af, rs, tx, oc, nr, ns, ne, nd, ss, sp, sd) → wX_define_26 post v1 0 (nI q) (nI L) (nI n) sc pd pa' tk af rs tx oc nr ns ne nd ss sp sd := by
    intro post pa' h
    exact br_t rfl ⟨pq_nb (x := 0) (by omega), h⟩
  unfold wpX_define
  rcases pi_ix v1 (n := 4) (by omega) with h | ⟨r, hr, rfl⟩
  · refine px_iRf h (br_t rfl (hX25 _ _ ?_))
    have h56 : ∀ (post : Int32 → SY → Prop) (z : Int32), wY_define_57 post v1 0 (nI L) yt (nI n) tok len nxt1 tx dos ag tc tp td kp → wY_define_38 post v1 z (nI L) yt (nI n) tok len nxt1 tx dos ag tc tp td kp := by
      intro post z h5
      exact br_c (fun _ => h5) (fun g => br_t (pi_3 g h) h5)
    exact hYw _ (fun _ => h56 _ _ (hY56 _ ⟨rfl, hI0 _⟩)) (fun _ => h56 _ _ (hY56 _ ⟨rfl, hI0 _⟩))
  refine px_iRt hr (br_f (by decide) ?_)
  have hY38 : ∀ (post : Int32 → SY → Prop), wY_define_57 post (nI r) 1 (nI L) yt (nI n) tok len nxt1 tx dos ag tc tp td kp → wY_define_38 post (nI r) 1 (nI L) yt (nI n) tok len nxt1 tx dos ag tc tp td kp := fun post h =>
    br_f (nI_pos (by omega)) (br_f (nI_nlt (a := 3) (by omega) (by omega)) (br_f (by decide) h))
  have acc : ∀ pa' : Nat → Int32, (q = 0 ∨ pd_E q t q 0 = q) → (∀ i, i < q → pa' i = pd_cx (pd_E q t q i)) → wX_define_26 (fun r' u' => wpY_define (fun r'' v' => r'' = r' ∧ i_Rel (k + 5) u' v') (nI L, yt, nI n, tok, len, nxt, tx, dos, ag, tc, tp, td, kp) (nI r)) (nI r) 1 (nI q) (nI L) (nI n) sc pd pa' tk af rs tx oc nr ns ne nd ss sp sd := by
    intro pa' hwh hpa
    have h0 : q ≠ 0 → pd_E q t q 0 = q := by
      intro a
      rcases hwh with b | b
      · exact absurd b a
      · exact b
    have hne : ∀ i, i < q → pd_E q t q i ≠ 0 := fun i hi => pd_cover hok q 0 (by omega) (by omega) (by rw [h0 (by omega)]; omega) i (by omega) (by rw [h0 (by omega)]; exact hi)
    obtain ⟨tk', af', b1, b2, b3⟩ := px_tP7 (ln := nI L) (nc := nI n) (sc := sc) (pd := pd) (pa := pa') (rs := rs) (tx := tx) (oc := oc) (nr := nr) (ns := ns) (ne := ne) (nd := nd) (ss := ss) (sp := sp) (sd := sd) (t := t) (e := pd_E q t q) hq hr (fun i hi => (ht i hi).1) (fun i hi => by rw [hpa i hi, cx_1 (hne i hi)]) tk af q 0 (by omega) tk af (fun i hi => absurd hi (by omega)) (fun _ _ => ⟨rfl, rfl⟩)
    obtain ⟨tok', c1, c2, c3⟩ := py_65 (yl := nI L) (yt := yt) (yk := nI n) (len := len) (tx := tx) (dos := dos) (ag := ag) (tc := tc) (tp := tp) (td := td) (kp := kp) hr nxt1 tok (z := 1) 12 0 (by omega) tok (fun i hi => absurd hi (by omega)) (fun _ _ => rfl)
    obtain ⟨nxt2, d1, d2, d3⟩ := py_sv (yl := nI L) (yt := yt) (yk := nI n) (tok := tok') (len := upd len r (len 4)) (tx := tx) (dos := dos) (ag := ag) (tc := tc) (tp := tp) (td := td) (kp := kp) (t := t) (l := r) (by omega) hq (by rw [pk_us]; exact h9.1) (fun i hi => by rw [c1 i (by omega)]; exact (ht i hi).2) nxt1
    refine br_f (by decide) (nm_r (e' := nI (12 * r)) (by rw [show (12 : Int32) = nI 12 from rfl, pk_mul, Nat.mul_comm]) ⟨q + 1, b3 _ (q + 1) (by omega) ⟨pq_nb (x := 1) (by omega), ?_⟩⟩)
    refine hYw _ (fun _ => hY38 _ (br_f (by decide) ⟨13, c3 _ 13 (by omega) (d3 _ (nm_e ⟨pq_nb (x := 1) (by omega), rfl, ?_⟩))⟩)) (fun a => absurd hwh a)
    refine pi_mk (q := 0) (gt := pd_g gt r t) (gn := pd_g gn r (fun k => 12 * r + pd_E q t q k)) (gz := pu_set gz r q) ⟨by omega, hL, h3, pd_WF hw hr hq (fun i hi => (ht i hi).2.2) hok h0, ⟨fun s hs => ?_, fun r' hr' => ?_⟩, ⟨fun s hs => ?_, fun r' hr' => ?_⟩, hX, h8, ⟨pk_us, fun k hk => absurd hk (by omega)⟩⟩
    · rcases pd_lv.mp hs with ⟨hne, hlv⟩ | ⟨heq, h48, hk⟩
      · rw [pd_g_0 hne, pd_g_0 hne, (b2 s hne).1, (b2 s hne).2]; exact hGX.1 s hlv
      · have es : s = 12 * r + s % 12 := by omega
        generalize s % 12 = i at es hk
        subst es
        rw [pd_g_1 (by omega), pd_g_1 (by omega)]
        exact b1 i hk
    · by_cases e : r' = r
      · subst e; rw [pk_us, pu_s]
      · rw [pk_un e, pu_n e]; exact hGX.2 r' hr'
    · rcases pd_lv.mp hs with ⟨hne, hlv⟩ | ⟨heq, h48, hk⟩
      · have hs1 := hlv.1
        rw [pd_g_0 hne, pd_g_0 hne, c2 s hne, d2 s (by omega), s2 s (by omega)]; exact hGY.1 s hlv
      · have es : s = 12 * r + s % 12 := by omega
        generalize s % 12 = i at es hk
        subst es
        rw [pd_g_1 (by omega), pd_g_1 (by omega), c1 i (by omega), d1 i hk, cy_1 (hne i hk)]
        exact ⟨(ht i hk).2.1, rfl⟩
    · rw [pk_un (by omega)]
      by_cases e : r' = r
      · subst e; rw [pk_us, pu_s]; exact h9.1
      · rw [pk_un e, pu_n e]; exact hGY.2 r' hr'
  refine pk_eq q 0 (fun a => acc pa (Or.inl a) (fun i hi => absurd hi (by omega))) (fun a => ?_)
  obtain ⟨pa', p1, p2⟩ := px_7 (ln := nI L) (nc := nI n) (sc := sc) (pd := pd) (tk := tk) (af := af) (rs := rs) (tx := tx) (oc := oc) (nr := nr) (ns := ns) (ne := ne) (nd := nd) (ss := ss) (sp := sp) (sd := sd) hq (by omega) (fun i hi => ⟨(ht i hi).1, (ht i hi).2.2⟩) q (Nat.le_refl q) pa (fun i hi1 hi2 => absurd hi1 (by omega))
  refine nm_e ⟨q + 1, p2 _ (q + 1) (by omega) (fun b => ?_) (fun b => ?_)⟩
  · exact br_f (by decide) (acc pa' (Or.inr b) p1)
  · refine br_t rfl (hX25 _ _ (hYw _ (fun c => absurd c (by omega)) (fun _ => ?_)))
    exact br_f (nI_pos (by omega)) (br_f (nI_nlt (a := 3) (by omega) (by omega)) (br_t rfl (hY56 _ ⟨rfl, hI0 _⟩)))

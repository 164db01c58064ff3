section
variable {C : Nat → Prop} {Ph : (Nat → Nat) → Nat → Nat} {B : (Nat → Nat) → Prop} {W V V1 V2 : Nat → Prop} {T0 T T' : Nat → Nat} {x x' : Nat}
theorem pg_rn_comb (h1 : pg_Rn C Ph B W V T0 T x) (h2 : pg_Rn C Ph B W V1 T T' x') (hV : ∀ c, V2 c → V c ∨ V1 c) : pg_Rn C Ph B W V2 T0 T' (if x' = 0 then x else 1) := by
  obtain ⟨a1, a2, a3, a4, a5, a6⟩ := h1
  obtain ⟨b1, b2, b3, b4, b5, b6⟩ := h2
  refine ⟨b1, ?_, fun c hc => (b3 c hc).trans (a3 c hc), ?_⟩
  · intro c hc
    rw [b2 c (by rw [a2 c hc]; exact hc), a2 c hc]
  by_cases hx : x' = 0
  · rw [if_pos hx]
    obtain ⟨e, b7⟩ := b4 hx
    subst e
    refine ⟨fun h0 => ?_, a5, a6⟩
    obtain ⟨e, a7⟩ := a4 h0
    subst e
    refine ⟨rfl, fun c hc hC h0 => ?_⟩
    rcases hV c hc with h | h
    · exact a7 c h hC h0
    · exact b7 c h hC h0
  · rw [if_neg hx]
    refine ⟨fun h => absurd h (by decide), fun _ => ?_, by decide⟩
    obtain ⟨c, q1, q2, q3, q4⟩ := b5 hx
    refine ⟨c, q1, q2, ?_, q4⟩
    by_cases e : T0 c = 0
    · exact e
    · rw [a2 c e] at q3; exact absurd q3 e
end
theorem pq_or0 {x : Nat} (h : x ≤ 1) : nI x ||| 0 = nI x := by
  have h2 : x = 0 ∨ x = 1 := by omega
  rcases h2 with rfl | rfl <;> rfl
theorem pq_or1 {x : Nat} (h : x ≤ 1) : nI x ||| 1 = nI 1 := by
  have h2 : x = 0 ∨ x = 1 := by omega
  rcases h2 with rfl | rfl <;> rfl
theorem pg_TY_set {dos ag : Nat → Int32} {T : Nat → Nat} {c v : Nat} (h : pg_TY dos ag T) (hc : c < 816) : pg_TY (upd dos c (pg_en v)) ag (pu_set T c v) := by
  refine ⟨fun d hd => ?_, fun d hd => ?_⟩
  · by_cases e : d = c
    · subst e; rw [pk_us, pu_s]
    · rw [pk_un e, pu_n e]; exact h.1 d hd
  · rw [pu_n (by omega)]; exact h.2 d hd
theorem pg_TY_seta {dos ag : Nat → Int32} {T : Nat → Nat} {c v : Nat} (h : pg_TY dos ag T) : pg_TY dos (upd ag c (pg_en v)) (pu_set T (816 + c) v) := by
  refine ⟨fun d hd => ?_, fun d hd => ?_⟩
  · rw [pu_n (by omega)]; exact h.1 d hd
  · by_cases e : d = c
    · subst e; rw [pk_us, pu_s]
    · rw [pk_un e, pu_n (by omega)]; exact h.2 d hd
theorem pg_TY_0 {dos ag : Nat → Int32} {T : Nat → Nat} {c : Nat} (h : pg_TY dos ag T) (h0 : T c = 0) : pg_TY (upd dos c (pg_en 0)) ag T := by
  refine ⟨fun d hd => ?_, h.2⟩
  by_cases e : d = c
  · subst e; rw [pk_us, h0]
  · rw [pk_un e]; exact h.1 d hd
theorem pg_TY_0a {dos ag : Nat → Int32} {T : Nat → Nat} {c : Nat} (h : pg_TY dos ag T) (h0 : T (816 + c) = 0) : pg_TY dos (upd ag c (pg_en 0)) T := by
  refine ⟨h.1, fun d hd => ?_⟩
  by_cases e : d = c
  · subst e; rw [pk_us, h0]
  · rw [pk_un e]; exact h.2 d hd
section
variable {yl yt yk : Int32} {tok len nxt tx tc tp td kp : Nat → Int32}
variable {gt gn gz : Nat → Nat} {L s i : Nat} {T0 : Nat → Nat}
theorem py_87 (hw : pg_WF gt gn gz) (hL : L ≤ 16) (hl : yl = nI L) (hX : pg_X tx L) (hG : pg_GY gt gn gz tok nxt len) (hs : pg_lv gz s) (hi : i ≤ L) (dos ag : Nat → Int32) (T : Nat → Nat) (x : Nat) (hR : pg_Rn (pg_CY gt gz L) (pg_PY gt gn gz (pg_m gt tx L)) (pg_BY gt gz L) (fun _ => True) (fun c => (c / 17 % 48 = s ∧ c % 17 < i) ∨ c = 17 * (s + 48) + i) T0 T x) (hT : pg_TY dos ag T) : ∃ (dos' : Nat → Int32) (T' : Nat → Nat) (x' : Nat), pg_Rn (pg_CY gt gz L) (pg_PY gt gn gz (pg_m gt tx L)) (pg_BY gt gz L) (fun _ => True) (fun c => c / 17 % 48 = s ∧ c % 17 < i + 1) T0 T' x' ∧ pg_TY dos' ag T' ∧ ∀ (post : Int32 → SY → Prop) (J4 : Int32 → Int32 → (Nat → Int32) → (Nat → Int32) → (Nat → Int32) → (Nat → Int32) → (Nat → Int32) → (Nat → Int32) → (Nat → Int32) → (Nat → Int32) → (Nat → Int32) → (Nat → Int32) → Prop), J4 (nI x') (nI (i + 1)) tok len nxt tx dos' ag tc tp td kp → wY_fill_87 post J4 (nI s) (nI x) (nI i) (nI (17 * s + i)) yl yt yk tok len nxt tx dos ag tc tp td kp := by
  have hs1 := hs.1
  have hx1 := hR.2.2.2.2.2
  have hB := hR.1.1
  have hc := pg_C_i hs hi hL
  have ec1 : (17 * s + i) / 17 = s := by omega
  have ec2 : (17 * s + i) % 17 = i := by omega
  have eP : pg_PY gt gn gz (pg_m gt tx L) T (17 * s + i) = pg_Gd gt gn gz (pg_m gt tx L) T s i := by
    unfold pg_PY; rw [ec1, ec2, if_pos hs1]
  have hV : ∀ d, pg_CY gt gz L d → d / 17 % 48 = s ∧ d % 17 < i + 1 → ((d / 17 % 48 = s ∧ d % 17 < i) ∨ d = 17 * (s + 48) + i) ∨ d = 17 * s + i := by
    intro d hC hd
    have hd2 : d / 17 < 96 := by
      rcases hC with h | ⟨h0, h, _⟩
      · have := h.1.1; omega
      · have := h.1.1; omega
    omega
  by_cases h0 : T (17 * s + i) = 0
  · by_cases hz0 : pg_Gd gt gn gz (pg_m gt tx L) T s i = 0
    · refine ⟨upd dos (17 * s + i) (pg_en 0), T, x, ?_, pg_TY_0 hT h0, fun post J4 hJ => ?_⟩
      · have h1 : pg_Rn (pg_CY gt gz L) (pg_PY gt gn gz (pg_m gt tx L)) (pg_BY gt gz L) (fun _ => True) (fun d => ((d / 17 % 48 = s ∧ d % 17 < i) ∨ d = 17 * (s + 48) + i) ∨ d = 17 * s + i) T0 T x := pg_rn_zero (c := 17 * s + i) hR (eP.trans hz0) fun d hd => hd
        refine pg_rn_skip h1 fun d hd => ?_
        by_cases hC : pg_CY gt gz L d
        · exact Or.inl (hV d hC hd)
        · exact Or.inr (Or.inr hC)
      · unfold wY_fill_87
        rw [nI_clamp (by omega), hT.1 _ (by omega), h0]
        refine ⟨vp_in_nI (by omega) (by decide), br_t (by decide) (py_fo hw hL hl hX hG hB hT hs hi ?_)⟩
        rw [hz0]
        refine ⟨vp_in_nI (by omega) (by decide), nm_e ⟨vp_in_nI (by omega) (by decide), ?_⟩⟩
        rw [pk_us]
        exact br_t (by decide) (nm_r (pq_or0 hx1) (nm_r (nI_1 i) hJ))
    · have hR' := pg_rn_set (V' := fun c => c / 17 % 48 = s ∧ c % 17 < i + 1) (pg_monoY hw hL) (pg_keepY hw hL pg_m_L) hR (Or.inl hc) trivial h0 (by rw [eP]; exact hz0)
      rw [eP] at hR'
      have hbd := pg_bdw hL (pg_Gd_bd (gm := pg_m gt tx L) hw hL pg_m_L hs hi hB)
      refine ⟨_, _, 1, hR', pg_TY_set hT (by omega), fun post J4 hJ => ?_⟩
      unfold wY_fill_87
      rw [nI_clamp (by omega), hT.1 _ (by omega), h0]
      refine ⟨vp_in_nI (by omega) (by decide), br_t (by decide) (py_fo hw hL hl hX hG hB hT hs hi ?_)⟩
      refine ⟨vp_in_nI (by omega) (by decide), nm_e ⟨vp_in_nI (by omega) (by decide), ?_⟩⟩
      rw [pk_us]
      exact br_f (pg_en_0 hbd hz0) (nm_r (pq_or1 hx1) (nm_r (nI_1 i) hJ))
  · refine ⟨dos, T, x, ?_, hT, fun post J4 hJ => ?_⟩
    · refine pg_rn_skip hR fun d hd => ?_
      by_cases hC : pg_CY gt gz L d
      · rcases hV d hC hd with h | h
        · exact Or.inl h
        · rw [h]; exact Or.inr (Or.inl h0)
      · exact Or.inr (Or.inr hC)
    · unfold wY_fill_87
      rw [nI_clamp (by omega), hT.1 _ (by omega)]
      have hbd := pg_bdw hL (pg_bx (pg_byx hB) hL hs hi)
      exact ⟨vp_in_nI (by omega) (by decide), br_f (pg_en_0 hbd h0) (nm_r (nI_1 i) hJ)⟩
theorem py_54 (hw : pg_WF gt gn gz) (hL : L ≤ 16) (hs : pg_lv gz s) (hi : i ≤ L) (ht : gt s = 12 ∨ gt s = 13) (dos ag : Nat → Int32) (T : Nat → Nat) (x : Nat) (hR : pg_Rn (pg_CY gt gz L) (pg_PY gt gn gz (pg_m gt tx L)) (pg_BY gt gz L) (fun _ => True) (fun c => c / 17 % 48 = s ∧ c % 17 < i) T0 T x) (hT : pg_TY dos ag T) (h0 : T (17 * (s + 48) + i) = 0) : ∃ (ag' : Nat → Int32) (T' : Nat → Nat) (x' : Nat), pg_Rn (pg_CY gt gz L) (pg_PY gt gn gz (pg_m gt tx L)) (pg_BY gt gz L) (fun _ => True) (fun c => (c / 17 % 48 = s ∧ c % 17 < i) ∨ c = 17 * (s + 48) + i) T0 T' x' ∧ pg_TY dos ag' T' ∧ ∀ (post : Int32 → SY → Prop) (J4 : Int32 → Int32 → (Nat → Int32) → (Nat → Int32) → (Nat → Int32) → (Nat → Int32) → (Nat → Int32) → (Nat → Int32) → (Nat → Int32) → (Nat → Int32) → (Nat → Int32) → (Nat → Int32) → Prop), wY_fill_87 post J4 (nI s) (nI x') (nI i) (nI (17 * s + i)) yl yt yk tok len nxt tx dos ag' tc tp td kp → wY_fill_54 post J4 (nI s) (nI x) (nI i) (nI (17 * s + i)) yl yt yk tok len nxt tx dos ag tc tp td kp := by
  have hs1 := hs.1
  have hx1 := hR.2.2.2.2.2
  have hB := hR.1.1
  have hc := pg_CY_a hs hi hL ht
  have ec1 : (17 * (s + 48) + i) / 17 = s + 48 := by omega
  have ec2 : (17 * (s + 48) + i) % 17 = i := by omega
  have eP : pg_PY gt gn gz (pg_m gt tx L) T (17 * (s + 48) + i) = pg_Ga T s i := by
    unfold pg_PY; rw [ec1, ec2, if_neg (by omega), Nat.add_sub_cancel]
  by_cases hz0 : pg_Ga T s i = 0
  · refine ⟨upd ag (17 * s + i) (pg_en 0), T, x, ?_, pg_TY_0a hT (by rw [pq_817]; exact h0), fun post J4 hJ => ?_⟩
    · exact pg_rn_zero (c := 17 * (s + 48) + i) hR (eP.trans hz0) fun d hd => hd
    · unfold wY_fill_54
      refine py_re hw hL hB hT hs hi ht ?_
      rw [hz0, nI_clamp (by omega)]
      refine ⟨vp_in_nI (by omega) (by decide), nm_e ⟨vp_in_nI (by omega) (by decide), ?_⟩⟩
      rw [pk_us]
      exact br_t (by decide) (nm_r (pq_or0 hx1) hJ)
  · have hR' := pg_rn_set (V' := fun c => (c / 17 % 48 = s ∧ c % 17 < i) ∨ c = 17 * (s + 48) + i) (pg_monoY hw hL) (pg_keepY hw hL pg_m_L) hR hc trivial h0 (by rw [eP]; exact hz0)
    rw [eP] at hR'
    have hbd := pg_bdw hL (pg_Ga_bd hw hL hs hi ht hB)
    refine ⟨upd ag (17 * s + i) (pg_en (pg_Ga T s i)), _, 1, hR', by rw [← pq_817]; exact pg_TY_seta hT, fun post J4 hJ => ?_⟩
    unfold wY_fill_54
    refine py_re hw hL hB hT hs hi ht ?_
    rw [nI_clamp (by omega)]
    refine ⟨vp_in_nI (by omega) (by decide), nm_e ⟨vp_in_nI (by omega) (by decide), ?_⟩⟩
    rw [pk_us]
    exact br_f (pg_en_0 hbd hz0) (nm_r (pq_or1 hx1) hJ)
theorem py_f4 (hw : pg_WF gt gn gz) (hL : L ≤ 16) (hl : yl = nI L) (hX : pg_X tx L) (hG : pg_GY gt gn gz tok nxt len) (hs : pg_lv gz s) : ∀ d i, i + d = L + 1 → ∀ (dos ag : Nat → Int32) (T : Nat → Nat) (x : Nat), pg_Rn (pg_CY gt gz L) (pg_PY gt gn gz (pg_m gt tx L)) (pg_BY gt gz L) (fun _ => True) (fun c => c / 17 % 48 = s ∧ c % 17 < i) T0 T x → pg_TY dos ag T → ∃ (dos' ag' : Nat → Int32) (T' : Nat → Nat) (x' : Nat), pg_Rn (pg_CY gt gz L) (pg_PY gt gn gz (pg_m gt tx L)) (pg_BY gt gz L) (fun _ => True) (fun c => c / 17 % 48 = s) T0 T' x' ∧ pg_TY dos' ag' T' ∧ ∀ (post : Int32 → SY → Prop) (n : Nat), d < n → post (nI x') (yl, yt, yk, tok, len, nxt, tx, dos', ag', tc, tp, td, kp) → wY_fill_4 post (nI s) yl yt yk n (nI x) (nI i) tok len nxt tx dos ag tc tp td kp := by
  intro d
  induction d with
  | zero =>
    intro i hi dos ag T x hR hT
    refine ⟨dos, ag, T, x, ?_, hT, fun post n hn hJ => ?_⟩
    · refine pg_rn_skip hR fun c hc => ?_
      by_cases hC : pg_CY gt gz L c
      · refine Or.inl ⟨hc, ?_⟩
        rcases hC with h | ⟨h0, h, _⟩
        · have := h.2; omega
        · have := h.2; omega
      · exact Or.inr (Or.inr hC)
    · obtain ⟨m, rfl⟩ : ∃ m, n = m + 1 := ⟨n - 1, by omega⟩
      subst hl
      exact br_t (nI_lt (by omega) (by omega)) ⟨pq_nb hR.2.2.2.2.2, hJ⟩
  | succ d ih =>
    intro i hi dos ag T x hR hT
    have hs1 := hs.1
    have hB := hR.1.1
    have htv := (hw.2 s hs).2.1
    unfold pg_tv at htv
    by_cases ht : gt s = 12 ∨ gt s = 13
    · by_cases h0 : T (17 * (s + 48) + i) = 0
      · obtain ⟨ag1, T1, x1, a1, a2, a3⟩ := py_54 (yl := yl) (yt := yt) (yk := yk) (tok := tok) (len := len) (nxt := nxt) (tc := tc) (tp := tp) (td := td) (kp := kp) hw hL hs (by omega) ht dos ag T x hR hT h0
        obtain ⟨dos2, T2, x2, b1, b2, b3⟩ := py_87 (yt := yt) (yk := yk) (tc := tc) (tp := tp) (td := td) (kp := kp) hw hL hl hX hG hs (i := i) (by omega) dos ag1 T1 x1 a1 a2
        obtain ⟨dos', ag', T', x', c1, c2, c3⟩ := ih (i + 1) (by omega) dos2 ag1 T2 x2 b1 b2
        refine ⟨dos', ag', T', x', c1, c2, fun post n hn hJ => ?_⟩
        obtain ⟨m, rfl⟩ : ∃ m, n = m + 1 := ⟨n - 1, by omega⟩
        have h54 := a3 post _ (b3 post _ (c3 post m (by omega) hJ))
        refine br_f (by rw [hl]; exact nI_nlt (by omega) (by omega)) (nm_r (pq_17 s i) ⟨vp_in_nI (by omega) (by decide), ?_⟩)
        rw [nI_clamp (by omega), hT.2 _ (by omega), pq_817, h0, nI_clamp (by omega), (hG.1 _ hs).1]
        refine br_t (by decide) ⟨vp_in_nI (by omega) (by decide), ?_⟩
        rcases ht with ht | ht
        · exact br_t (by rw [ht]; rfl) h54
        · exact br_f (by rw [ht]; decide) ⟨vp_in_nI (by omega) (by decide), br_t (by rw [ht]; rfl) h54⟩
      · have hR1 : pg_Rn (pg_CY gt gz L) (pg_PY gt gn gz (pg_m gt tx L)) (pg_BY gt gz L) (fun _ => True) (fun c => (c / 17 % 48 = s ∧ c % 17 < i) ∨ c = 17 * (s + 48) + i) T0 T x := by
          refine pg_rn_skip hR fun c hc => ?_
          rcases hc with h | h
          · exact Or.inl h
          · rw [h]; exact Or.inr (Or.inl h0)
        obtain ⟨dos2, T2, x2, b1, b2, b3⟩ := py_87 (yt := yt) (yk := yk) (tc := tc) (tp := tp) (td := td) (kp := kp) hw hL hl hX hG hs (i := i) (by omega) dos ag T x hR1 hT
        obtain ⟨dos', ag', T', x', c1, c2, c3⟩ := ih (i + 1) (by omega) dos2 ag T2 x2 b1 b2
        refine ⟨dos', ag', T', x', c1, c2, fun post n hn hJ => ?_⟩
        obtain ⟨m, rfl⟩ : ∃ m, n = m + 1 := ⟨n - 1, by omega⟩
        have h87 := b3 post _ (c3 post m (by omega) hJ)
        refine br_f (by rw [hl]; exact nI_nlt (by omega) (by omega)) (nm_r (pq_17 s i) ⟨vp_in_nI (by omega) (by decide), ?_⟩)
        have hbd := pg_bdw hL (pg_by hB hL hs (p := i) (by omega) ht)
        refine br_f ?_ h87
        rw [nI_clamp (by omega), hT.2 _ (by omega), pq_817]
        exact pg_en_0 hbd h0
    · have hR1 : pg_Rn (pg_CY gt gz L) (pg_PY gt gn gz (pg_m gt tx L)) (pg_BY gt gz L) (fun _ => True) (fun c => (c / 17 % 48 = s ∧ c % 17 < i) ∨ c = 17 * (s + 48) + i) T0 T x := by
        refine pg_rn_skip hR fun c hc => ?_
        rcases hc with h | h
        · exact Or.inl h
        · refine Or.inr (Or.inr fun hC => ?_)
          rcases hC with h1 | ⟨_, _, h1⟩
          · have := h1.1.1; omega
          · have e : c / 17 - 48 = s := by omega
            rw [e] at h1; exact ht h1
      obtain ⟨dos2, T2, x2, b1, b2, b3⟩ := py_87 (yt := yt) (yk := yk) (tc := tc) (tp := tp) (td := td) (kp := kp) hw hL hl hX hG hs (i := i) (by omega) dos ag T x hR1 hT
      obtain ⟨dos', ag', T', x', c1, c2, c3⟩ := ih (i + 1) (by omega) dos2 ag T2 x2 b1 b2
      refine ⟨dos', ag', T', x', c1, c2, fun post n hn hJ => ?_⟩
      obtain ⟨m, rfl⟩ : ∃ m, n = m + 1 := ⟨n - 1, by omega⟩
      have h87 := b3 post _ (c3 post m (by omega) hJ)
      refine br_f (by rw [hl]; exact nI_nlt (by omega) (by omega)) (nm_r (pq_17 s i) ⟨vp_in_nI (by omega) (by decide), br_c (fun _ => ?_) (fun _ => h87)⟩)
      rw [nI_clamp (by omega), (hG.1 _ hs).1]
      refine ⟨vp_in_nI (by omega) (by decide), pk_eq (gt s) 12 (fun e => absurd (Or.inl e) ht) (fun _ => ⟨vp_in_nI (by omega) (by decide), pk_eq (gt s) 13 (fun e => absurd (Or.inr e) ht) (fun _ => h87)⟩)⟩
theorem py_42 (hw : pg_WF gt gn gz) (hL : L ≤ 16) (hl : yl = nI L) (hX : pg_X tx L) (hG : pg_GY gt gn gz tok nxt len) : ∀ k, k ≤ 48 → ∀ (dos ag : Nat → Int32) (T : Nat → Nat) (x : Nat), pg_Rn (pg_CY gt gz L) (pg_PY gt gn gz (pg_m gt tx L)) (pg_BY gt gz L) (fun _ => True) (fun c => k ≤ c / 17 % 48) T0 T x → pg_TY dos ag T → ∃ (dos' ag' : Nat → Int32) (T' : Nat → Nat) (x' : Nat), pg_Rn (pg_CY gt gz L) (pg_PY gt gn gz (pg_m gt tx L)) (pg_BY gt gz L) (fun _ => True) (fun _ => True) T0 T' x' ∧ pg_TY dos' ag' T' ∧ ∀ (post : SY → Prop) (J33 : Int32 → Int32 → Int32 → Int32 → (Nat → Int32) → (Nat → Int32) → (Nat → Int32) → (Nat → Int32) → (Nat → Int32) → (Nat → Int32) → (Nat → Int32) → (Nat → Int32) → (Nat → Int32) → (Nat → Int32) → Prop) (n : Nat), k < n → J33 (nI x') yl yt yk tok len nxt tx dos' ag' tc tp td kp → wY_table_42 post J33 n (nI x) (nI k - 1) yl yt yk tok len nxt tx dos ag tc tp td kp := by
  intro k
  induction k with
  | zero =>
    intro _ dos ag T x hR hT
    refine ⟨dos, ag, T, x, pg_rn_skip hR fun c _ => Or.inl (Nat.zero_le _), hT, fun post J n hn hJ => ?_⟩
    obtain ⟨m, rfl⟩ : ∃ m, n = m + 1 := ⟨n - 1, by omega⟩
    exact br_t (by decide) hJ
  | succ k ih =>
    intro hk dos ag T x hR hT
    have hz := hw.1 (k / 12) (by omega)
    have ed : nI k / 12 = nI (k / 12) := pk_div (d := 12) (by omega) (by omega) (by omega)
    have er : nI k - nI k / 12 * 12 = nI (k % 12) := pk_rem (d := 12) (by omega) (by omega) (by omega)
    by_cases hlv : pg_lv gz k
    · obtain ⟨dos1, ag1, T1, x1, a1, a2, a3⟩ := py_f4 (yt := yt) (yk := yk) (tc := tc) (tp := tp) (td := td) (kp := kp) (T0 := T) hw hL hl hX hG hlv (L + 1) 0 (by omega) dos ag T 0 (pg_rn_0 hR.1 fun c hc => absurd hc.2 (by omega)) hT
      have hR1 := pg_rn_comb (V2 := fun c => k ≤ c / 17 % 48) hR a1 fun c hc => by
        by_cases e : c / 17 % 48 = k
        · exact Or.inr e
        · exact Or.inl (by show k + 1 ≤ c / 17 % 48; have : k ≤ c / 17 % 48 := hc; omega)
      obtain ⟨dos', ag', T', x', c1, c2, c3⟩ := ih (by omega) dos1 ag1 T1 _ hR1 a2
      refine ⟨dos', ag', T', x', c1, c2, fun post J n hn hJ => ?_⟩
      obtain ⟨m, rfl⟩ : ∃ m, n = m + 1 := ⟨n - 1, by omega⟩
      have h4 := c3 post J m (by omega) hJ
      rw [nI_pred]
      refine br_f (nI_pos (by omega)) ⟨by decide, by decide, ?_⟩
      rw [er, ed, nI_clamp (by omega), hG.2 _ (by omega)]
      refine ⟨vp_in_nI (by omega) (by decide), br_f (nI_ge hlv.2 (by omega)) ⟨vp_in_nI (by omega) (by decide), ?_⟩⟩
      rw [nI_clamp (by omega), (hG.1 _ hlv).2]
      have hgn := (hw.2 k hlv).1
      refine br_f (nI_nle (by omega) (by omega)) ⟨L + 2, a3 _ (L + 2) (by omega) ?_⟩
      have hx1 := a1.2.2.2.2.2
      have h01 : x1 = 0 ∨ x1 = 1 := by omega
      rcases h01 with rfl | rfl
      · rw [if_pos rfl] at h4
        exact br_t rfl (nm_r (pq_pm k) h4)
      · rw [if_neg (by decide)] at h4
        exact br_f (by decide) (nm_r (pq_pm k) h4)
    · have hR1 : pg_Rn (pg_CY gt gz L) (pg_PY gt gn gz (pg_m gt tx L)) (pg_BY gt gz L) (fun _ => True) (fun c => k ≤ c / 17 % 48) T0 T x := by
        refine pg_rn_skip hR fun c hc => ?_
        by_cases e : c / 17 % 48 = k
        · refine Or.inr (Or.inr fun hC => ?_)
          rcases hC with h1 | ⟨h0, h1, _⟩
          · have h2 := h1.1.1
            have e2 : c / 17 = k := by omega
            have h3 := h1.1
            rw [e2] at h3; exact hlv h3
          · have h2 := h1.1.1
            have e2 : (c - 816) / 17 = k := by omega
            have h3 := h1.1
            rw [e2] at h3; exact hlv h3
        · exact Or.inl (by show k + 1 ≤ c / 17 % 48; have : k ≤ c / 17 % 48 := hc; omega)
      obtain ⟨dos', ag', T', x', c1, c2, c3⟩ := ih (by omega) dos ag T x hR1 hT
      refine ⟨dos', ag', T', x', c1, c2, fun post J n hn hJ => ?_⟩
      obtain ⟨m, rfl⟩ : ∃ m, n = m + 1 := ⟨n - 1, by omega⟩
      have h4 := c3 post J m (by omega) hJ
      rw [nI_pred]
      refine br_f (nI_pos (by omega)) ⟨by decide, by decide, ?_⟩
      rw [er, ed, nI_clamp (by omega), hG.2 _ (by omega)]
      have hlv2 : gz (k / 12) ≤ k % 12 := by
        by_cases e : k % 12 < gz (k / 12)
        · exact absurd ⟨by omega, e⟩ hlv
        · omega
      exact ⟨vp_in_nI (by omega) (by decide), br_t (nI_le hlv2 (by omega)) (nm_r (pq_pm k) h4)⟩
theorem py_33 (hw : pg_WF gt gn gz) (hL : L ≤ 16) (hl : yl = nI L) (hX : pg_X tx L) (hG : pg_GY gt gn gz tok nxt len) : ∀ m (dos ag : Nat → Int32) (T : Nat → Nat), pg_Good (pg_CY gt gz L) (pg_PY gt gn gz (pg_m gt tx L)) (pg_BY gt gz L) T → pg_TY dos ag T → pg_cn T 1632 < m → ∃ (dos' ag' : Nat → Int32) (T' : Nat → Nat), pg_Good (pg_CY gt gz L) (pg_PY gt gn gz (pg_m gt tx L)) (pg_BY gt gz L) T' ∧ pg_TY dos' ag' T' ∧ (∀ c, pg_CY gt gz L c → T' c = 0 → pg_PY gt gn gz (pg_m gt tx L) T' c = 0) ∧ ∀ (post : SY → Prop) (n : Nat), m < n → post (yl, yt, yk, tok, len, nxt, tx, dos', ag', tc, tp, td, kp) → wY_table_33 post n 1 yl yt yk tok len nxt tx dos ag tc tp td kp := by
  intro m
  induction m with
  | zero => intro dos ag T _ _ h; exact absurd h (by omega)
  | succ m ih =>
    intro dos ag T hg hT hm
    obtain ⟨dos1, ag1, T1, x1, a1, a2, a3⟩ := py_42 (yt := yt) (yk := yk) (tc := tc) (tp := tp) (td := td) (kp := kp) (T0 := T) hw hL hl hX hG 48 (Nat.le_refl _) dos ag T 0 (pg_rn_0 hg fun c hc => absurd hc (by omega)) hT
    obtain ⟨r1, r2, r3, r4, r5, r6⟩ := a1
    by_cases hx : x1 = 0
    · subst hx
      obtain ⟨e, r7⟩ := r4 rfl
      refine ⟨dos1, ag1, T1, r1, a2, fun c => by rw [e]; exact r7 c trivial, fun post n hn hJ => ?_⟩
      obtain ⟨n, rfl⟩ : ∃ n', n = n' + 1 + 1 := ⟨n - 2, by omega⟩
      exact br_f (by decide) ⟨49, a3 post _ 49 (by omega) (br_t (by decide) hJ)⟩
    · obtain ⟨c, q1, _, q3, q4⟩ := r5 hx
      have hc : c < 1632 := by
        rcases q1 with h1 | ⟨h0, h1, _⟩
        · have := h1.1.1; omega
        · have := h1.1.1; omega
      have hlt := pg_cn_lt (f := T) (f' := T1) (k := c) q3 q4 1632 hc (fun k hk h => by
        by_cases e : T k = 0
        · exact e
        · rw [← r2 _ e]; exact h)
      have hx1 : x1 = 1 := by omega
      subst hx1
      obtain ⟨dos', ag', T', g1, g2, g3, g4⟩ := ih dos1 ag1 T1 r1 a2 (by omega)
      refine ⟨dos', ag', T', g1, g2, g3, fun post n hn hJ => ?_⟩
      obtain ⟨n, rfl⟩ : ∃ n', n = n' + 1 := ⟨n - 1, by omega⟩
      exact br_f (by decide) ⟨49, a3 post _ 49 (by omega) (g4 post n (by omega) hJ)⟩
theorem py_2 : ∀ d i, i + d = 816 → ∀ (dos ag : Nat → Int32), (∀ c, c < i → dos c = -3 ∧ ag c = -3) → ∃ dos' ag' : Nat → Int32, (∀ c, c < 816 → dos' c = -3 ∧ ag' c = -3) ∧ ∀ (post : SY → Prop) (n : Nat), d < n → (∃ n33, wY_table_33 post n33 1 yl yt yk tok len nxt tx dos' ag' tc tp td kp) → wY_table_2 post yl yt yk n (nI i) tok len nxt tx dos ag tc tp td kp := by
  intro d
  induction d with
  | zero =>
    intro i hi dos ag h
    refine ⟨dos, ag, fun c hc => h c (by omega), fun post n hn hJ => ?_⟩
    obtain ⟨m, rfl⟩ : ∃ m, n = m + 1 := ⟨n - 1, by omega⟩
    exact br_t (nI_le (a := 816) (by omega) (by omega)) hJ
  | succ d ih =>
    intro i hi dos ag h
    obtain ⟨dos', ag', h1, h2⟩ := ih (i + 1) (by omega) (upd dos i (-3)) (upd ag i (-3)) (fun c hc => by
      by_cases e : c = i
      · subst e; exact ⟨pk_us, pk_us⟩
      · rw [pk_un e, pk_un e]; exact h c (by omega))
    refine ⟨dos', ag', h1, fun post n hn hJ => ?_⟩
    obtain ⟨m, rfl⟩ : ∃ m, n = m + 1 := ⟨n - 1, by omega⟩
    refine br_f (nI_ge (b := 816) (by omega) (by omega)) ⟨vp_in_nI (by omega) (by decide), ?_⟩
    rw [nI_clamp (by omega)]
    exact nm_e ⟨vp_in_nI (by omega) (by decide), nm_e (nm_r (nI_1 i) (h2 post m (by omega) hJ))⟩
theorem py_table (hw : pg_WF gt gn gz) (hL : L ≤ 16) (hl : yl = nI L) (hX : pg_X tx L) (hG : pg_GY gt gn gz tok nxt len) (dos ag : Nat → Int32) : ∃ (dos' ag' : Nat → Int32) (T' : Nat → Nat), pg_Good (pg_CY gt gz L) (pg_PY gt gn gz (pg_m gt tx L)) (pg_BY gt gz L) T' ∧ pg_TY dos' ag' T' ∧ (∀ c, pg_CY gt gz L c → T' c = pg_PY gt gn gz (pg_m gt tx L) T' c) ∧ ∀ (post : SY → Prop), post (yl, yt, yk, tok, len, nxt, tx, dos', ag', tc, tp, td, kp) → wpY_table post (yl, yt, yk, tok, len, nxt, tx, dos, ag, tc, tp, td, kp) := by
  obtain ⟨dos1, ag1, h1, h2⟩ := py_2 (yl := yl) (yt := yt) (yk := yk) (tok := tok) (len := len) (nxt := nxt) (tx := tx) (tc := tc) (tp := tp) (td := td) (kp := kp) 816 0 (by omega) dos ag (fun c hc => absurd hc (by omega))
  have hg : pg_Good (pg_CY gt gz L) (pg_PY gt gn gz (pg_m gt tx L)) (pg_BY gt gz L) (fun _ => 0) := pg_zero (fun c _ => Or.inl rfl)
  obtain ⟨dos', ag', T', g1, g2, g3, g4⟩ := py_33 (yt := yt) (yk := yk) (tc := tc) (tp := tp) (td := td) (kp := kp) hw hL hl hX hG (pg_cn (fun _ => 0) 1632 + 1) dos1 ag1 (fun _ => 0) hg ⟨fun c hc => (h1 c hc).1, fun c hc => (h1 c hc).2⟩ (by omega)
  exact ⟨dos', ag', T', g1, g2, pg_fix g1 g3, fun post hJ => ⟨817, h2 post 817 (by omega) ⟨_, g4 post _ (Nat.lt_succ_self _) hJ⟩⟩⟩
end

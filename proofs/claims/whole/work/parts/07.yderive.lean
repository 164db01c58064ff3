def pg_GY (gt gn gz : Nat → Nat) (tok nxt len : Nat → Int32) : Prop := (∀ s, pg_lv gz s → tok s = nI (gt s) ∧ nxt s = nI (gn s)) ∧ ∀ r, r < 4 → len r = nI (gz r)
def pg_TY (dos ag : Nat → Int32) (T : Nat → Nat) : Prop := (∀ c, c < 816 → dos c = pg_en (T c)) ∧ ∀ c, c < 816 → ag c = pg_en (T (816 + c))
/-- the text holds letters -/
def pg_X (tx : Nat → Int32) (L : Nat) : Prop := ∀ i, i < L → (97 : Int32) ≤ tx i
section
variable {gt gn gz : Nat → Nat} {gm : Nat → Nat → Bool} {L s p rep : Nat} {T : Nat → Nat}
theorem pE_10 (ht : gt s = 10) : pg_E gt gn gz gm rep T s p = if T (17 * (s + 1) + p) < 3 then T (17 * (s + 1) + p) else T (17 * gn (s + 1) + (T (17 * (s + 1) + p) - 3)) := by
  unfold pg_E; rw [if_pos ht]
theorem pE_11 (ht : gt s = 11) : pg_E gt gn gz gm rep T s p = if T (17 * (s + 1) + p) = 1 then T (17 * gn (s + 1) + p) else T (17 * (s + 1) + p) := by
  unfold pg_E; rw [if_neg (by omega), if_pos ht]
theorem pE_14 (ht : gt s = 14) : pg_E gt gn gz gm rep T s p = if T (17 * (s + 1) + p) = 1 then p + 3 else T (17 * (s + 1) + p) := by
  unfold pg_E; rw [if_neg (by omega), if_neg (by omega), if_neg (by omega), if_pos ht]
theorem pE_15 (ht : gt s = 15) : pg_E gt gn gz gm rep T s p = if T (17 * (s + 1) + p) < 3 then T (17 * (s + 1) + p) else p + 3 := by
  unfold pg_E; rw [if_neg (by omega), if_neg (by omega), if_neg (by omega), if_neg (by omega), if_pos ht]
theorem pE_16 (ht : gt s = 16) : pg_E gt gn gz gm rep T s p = if T (17 * (s + 1) + p) = 0 then 0 else if T (17 * (s + 1) + p) = 1 then p + 3 else 1 := by
  unfold pg_E; rw [if_neg (by omega), if_neg (by omega), if_neg (by omega), if_neg (by omega), if_neg (by omega), if_pos ht]
theorem pE_20 (ht : 20 ≤ gt s ∧ gt s ≤ 23) : pg_E gt gn gz gm rep T s p = if gz (gt s - 20) = 0 then 1 else T (17 * (12 * (gt s - 20)) + p) := by
  unfold pg_E; rw [if_neg (by omega), if_neg (by omega), if_neg (by omega), if_neg (by omega), if_neg (by omega), if_neg (by omega), if_pos ht]
theorem pE_2 (ht : gt s = 2) : pg_E gt gn gz gm rep T s p = p + 3 := by
  unfold pg_E; rw [if_neg (by omega), if_neg (by omega), if_neg (by omega), if_neg (by omega), if_neg (by omega), if_neg (by omega), if_neg (by omega), if_pos ht]
theorem pE_m (ht : gt s = 1 ∨ gt s = 3 ∨ 97 ≤ gt s) : pg_E gt gn gz gm rep T s p = if gm s p then p + 4 else 1 := by
  unfold pg_E; rw [if_neg (by omega), if_neg (by omega), if_neg (by omega), if_neg (by omega), if_neg (by omega), if_neg (by omega), if_neg (by omega), if_neg (by omega)]
end
theorem pq_17 (s p : Nat) : 17 * nI s + nI p = nI (17 * s + p) := by rw [show (17 : Int32) = nI 17 from rfl, pk_mul, nI_add]
theorem pq_817 (s p : Nat) : 816 + (17 * s + p) = 17 * (s + 48) + p := by omega
section
variable {yl yt yk : Int32} {tok len nxt tx dos ag tc tp td kp : Nat → Int32} {post : Int32 → Prop} {x y : Int32}
variable {gt gn gz : Nat → Nat} {L s p : Nat} {T : Nat → Nat}
theorem py_36 {x1 x3 z : Int32} (hL : L ≤ 16) (hl : yl = nI L) (hp : p ≤ L) (h1 : p < L → wY_follows_56 post x1 (nI p) x3 z (tx p) yl yt yk tok len nxt tx dos ag tc tp td kp) (h2 : ¬ p < L → wY_follows_56 post x1 (nI p) x3 z 0 yl yt yk tok len nxt tx dos ag tc tp td kp) : wY_follows_36 post x1 (nI p) x3 z yl yt yk tok len nxt tx dos ag tc tp td kp := by
  subst hl
  refine pk_le L p (fun h => h2 (by omega)) (fun h => ⟨vp_in_nI (by omega) (by decide), ?_⟩)
  rw [nI_clamp (by omega)]
  exact h1 h
theorem py_a (hw : pg_WF gt gn gz) (hT : pg_TY dos ag T) (hs : pg_lv gz s) (hp : p < 17) {x1 : Int32} (hx : x1 = nI s) {P : Int32 → Prop} (h1 : 10 ≤ gt s) (h2 : gt s ≤ 16) (h : P (pg_en (T (17 * (s + 1) + p)))) : vp_in ((17 * (x1 + 1)) + nI p) 816 ∧ P (dos ((17 * (x1 + 1)) + nI p).toNatClampNeg) := by
  subst hx
  have l1 := (pg_lv_1 hw hs h1 h2).1.1
  rw [nI_1, pq_17, nI_clamp (by omega), hT.1 _ (by omega)]
  exact ⟨vp_in_nI (by omega) (by decide), h⟩
theorem py_fo (hw : pg_WF gt gn gz) (hL : L ≤ 16) (hl : yl = nI L) (hX : pg_X tx L) (hG : pg_GY gt gn gz tok nxt len) (hB : pg_BY gt gz L T) (hT : pg_TY dos ag T) (hs : pg_lv gz s) (hp : p ≤ L) (h : post (pg_en (pg_Gd gt gn gz (pg_m gt tx L) T s p))) : wpY_follows post (yl, yt, yk, tok, len, nxt, tx, dos, ag, tc, tp, td, kp) (nI s) (nI p) := by
  have hs1 := hs.1
  refine ⟨vp_in_nI (by omega) (by decide), nm_r (e' := nI (gt s)) (by rw [nI_clamp (by omega)]; exact (hG.1 _ hs).1) ?_⟩
  have htv := (hw.2 s hs).2.1
  unfold pg_tv at htv
  unfold pg_Gd at h
  have h97 : ∀ t : Nat, 97 ≤ t → t ≤ 122 → (0 : Int32) < nI t := fun t h1 h2 => nI_lt (a := 0) (by omega) (by omega)
  rcases htv with ht | ht | ht | ht | ht | ht
  · rw [ht]
    refine br_t (by decide) ?_
    rw [pE_m (by omega)] at h
    refine py_36 hL hl hp (fun h1 => ?_) (fun h1 => ?_)
    · rw [show pg_m gt tx L s p = true from decide_eq_true ⟨h1, Or.inr ⟨by omega, Or.inl ht⟩⟩, if_pos rfl, show p + 4 = (p + 1) + 3 from rfl, en_3] at h
      repeat (first | refine br_t (by decide) ?_ | refine br_f (by decide) ?_)
      refine br_f (fun h2 => ?_) (by rw [nI_1]; exact h)
      exact absurd (Int32.le_trans (hX p h1) h2) (by decide)
    · rw [show pg_m gt tx L s p = false from decide_eq_false (fun h2 => h1 h2.1)] at h
      repeat (first | refine br_t (by decide) ?_ | refine br_f (by decide) ?_)
      exact h
  · rw [ht]
    refine br_t (by decide) ?_
    rw [pE_2 ht, en_3] at h
    refine py_36 hL hl hp (fun h1 => ?_) (fun h1 => ?_)
    · repeat (first | refine br_t (by decide) ?_ | refine br_f (by decide) ?_)
      exact h
    · repeat (first | refine br_t (by decide) ?_ | refine br_f (by decide) ?_)
      exact h
  · rw [ht]
    refine br_t (by decide) ?_
    rw [pE_m (by omega)] at h
    obtain ⟨l1, l2⟩ := pg_lv_3 hw hs ht
    have hl1 := l1.1
    have hl2 := l2.1
    have e2 : nI s + 2 = nI (s + 2) := by rw [show (2 : Int32) = nI 2 from rfl, nI_add]
    refine py_36 hL hl hp (fun h1 => ?_) (fun h1 => ?_)
    · repeat (first | refine br_t (by decide) ?_ | refine br_f (by decide) ?_)
      rw [nI_1, e2, nI_clamp (by omega), nI_clamp (by omega), (hG.1 _ l1).1, (hG.1 _ l2).1]
      refine ⟨vp_in_nI (by omega) (by decide), br_c (fun h2 => ?_) (fun h2 => ⟨vp_in_nI (by omega) (by decide), br_c (fun h3 => ?_) (fun h3 => ?_)⟩)⟩
      · rw [show pg_m gt tx L s p = false from decide_eq_false (by rintro ⟨_, ⟨_, h3, _⟩ | ⟨h3, _⟩⟩; exact h3 h2; exact h3 ht)] at h; exact h
      · rw [show pg_m gt tx L s p = false from decide_eq_false (by rintro ⟨_, ⟨_, _, h4⟩ | ⟨h4, _⟩⟩; exact h4 h3; exact h4 ht)] at h; exact h
      · rw [show pg_m gt tx L s p = true from decide_eq_true ⟨h1, Or.inl ⟨ht, h2, h3⟩⟩, if_pos rfl, show p + 4 = (p + 1) + 3 from rfl, en_3] at h; rw [nI_1]; exact h
    · rw [show pg_m gt tx L s p = false from decide_eq_false (fun h2 => h1 h2.1)] at h
      have h6 := ((hw.2 s hs).2.2.2.2.2 ht).2.1
      have h7 := (hw.2 _ l1).2.1
      unfold pg_tv at h7
      repeat (first | refine br_t (by decide) ?_ | refine br_f (by decide) ?_)
      rw [nI_1, nI_clamp (by omega), (hG.1 _ l1).1]
      exact ⟨vp_in_nI (by omega) (by decide), br_t (h97 _ (by omega) (by omega)) h⟩
  · have l1 := (pg_lv_1 hw hs (by omega) (by omega)).1
    have hl1 := l1.1
    have hb := pg_bx (pg_byx hB) hL l1 hp
    have h7 : gt s = 10 ∨ gt s = 11 ∨ gt s = 12 ∨ gt s = 13 ∨ gt s = 14 ∨ gt s = 15 ∨ gt s = 16 := by omega
    rcases h7 with ht | ht | ht | ht | ht | ht | ht
    · have l2 := (pg_lv_2 hw hs (Or.inl ht)).1
      have hl2 := l2.1
      rw [ht]
      refine br_f (by decide) (br_f (by decide) (py_a hw hT hs (by omega) rfl (P := fun z => wY_follows_36 post (nI s) (nI p) (nI 10) z yl yt yk tok len nxt tx dos ag tc tp td kp) (by omega) (by omega) ?_))
      rw [pE_10 ht] at h
      have key : ∀ c : Int32, wY_follows_56 post (nI s) (nI p) (nI 10) (pg_en (T (17 * (s + 1) + p))) c yl yt yk tok len nxt tx dos ag tc tp td kp := by
        intro c
        iterate 2 refine br_f (by decide) ?_
        iterate 9 refine br_f (by decide) ?_
        refine br_t (by decide) ?_
        rcases pg_bd3 hb with e | e | ⟨j, h1, h2, e⟩
        · rw [e] at h ⊢; exact br_f (by decide) h
        · rw [e] at h ⊢; exact br_f (by decide) h
        · rw [e] at h ⊢
          rw [if_neg (by omega), Nat.add_sub_cancel] at h
          rw [en_3, nI_1, nI_clamp (by omega), (hG.1 _ l1).2, pq_17, nI_clamp (by omega), hT.1 _ (by omega)]
          exact br_t (nI_pos' (by omega)) ⟨vp_in_nI (by omega) (by decide), vp_in_nI (by omega) (by decide), h⟩
      exact py_36 hL hl hp (fun _ => key _) (fun _ => key _)
    · have l2 := (pg_lv_2 hw hs (Or.inr ht)).1
      have hl2 := l2.1
      rw [ht]
      refine br_f (by decide) (br_f (by decide) (py_a hw hT hs (by omega) rfl (P := fun z => wY_follows_36 post (nI s) (nI p) (nI 11) z yl yt yk tok len nxt tx dos ag tc tp td kp) (by omega) (by omega) ?_))
      rw [pE_11 ht] at h
      have key : ∀ c : Int32, wY_follows_56 post (nI s) (nI p) (nI 11) (pg_en (T (17 * (s + 1) + p))) c yl yt yk tok len nxt tx dos ag tc tp td kp := by
        intro c
        iterate 12 refine br_f (by decide) ?_
        refine br_t (by decide) ?_
        rcases pg_bd3 hb with e | e | ⟨j, h1, h2, e⟩
        · rw [e] at h ⊢; exact br_f (by decide) h
        · rw [e] at h ⊢
          rw [nI_1, nI_clamp (by omega), (hG.1 _ l1).2, pq_17, nI_clamp (by omega), hT.1 _ (by omega)]
          exact br_t (by decide) ⟨vp_in_nI (by omega) (by decide), vp_in_nI (by omega) (by decide), h⟩
        · rw [e] at h ⊢
          rw [if_neg (by omega), en_3] at h
          rw [en_3]
          exact br_f (en_n2 (by omega)) h
      exact py_36 hL hl hp (fun _ => key _) (fun _ => key _)
    · rw [ht]
      refine br_f (by decide) (br_f (by decide) (py_a hw hT hs (by omega) rfl (P := fun z => wY_follows_36 post (nI s) (nI p) (nI 12) z yl yt yk tok len nxt tx dos ag tc tp td kp) (by omega) (by omega) ?_))
      rw [pg_E_rep (Or.inl ht), if_pos ht] at h
      have key : ∀ c : Int32, wY_follows_56 post (nI s) (nI p) (nI 12) (pg_en (T (17 * (s + 1) + p))) c yl yt yk tok len nxt tx dos ag tc tp td kp := by
        intro c
        iterate 13 refine br_f (by decide) ?_
        refine br_t (by decide) ?_
        rw [pq_17, nI_clamp (by omega), hT.2 _ (by omega), pq_817]
        exact ⟨vp_in_nI (by omega) (by decide), h⟩
      exact py_36 hL hl hp (fun _ => key _) (fun _ => key _)
    · rw [ht]
      refine br_f (by decide) (br_f (by decide) (py_a hw hT hs (by omega) rfl (P := fun z => wY_follows_36 post (nI s) (nI p) (nI 13) z yl yt yk tok len nxt tx dos ag tc tp td kp) (by omega) (by omega) ?_))
      rw [pg_E_rep (Or.inr ht), if_neg (by omega)] at h
      have key : ∀ c : Int32, wY_follows_56 post (nI s) (nI p) (nI 13) (pg_en (T (17 * (s + 1) + p))) c yl yt yk tok len nxt tx dos ag tc tp td kp := by
        intro c
        iterate 14 refine br_f (by decide) ?_
        refine br_t (by decide) ?_
        rcases pg_bd3 hb with e | e | ⟨j, h1, h2, e⟩
        · rw [e] at h ⊢; exact br_f (by decide) h
        · rw [e] at h ⊢; exact br_f (by decide) h
        · rw [e] at h ⊢
          rw [if_neg (by omega), Nat.add_sub_cancel] at h
          rw [en_3, pq_17, nI_clamp (by omega), hT.2 _ (by omega), pq_817]
          exact br_t (nI_pos' (by omega)) ⟨vp_in_nI (by omega) (by decide), h⟩
      exact py_36 hL hl hp (fun _ => key _) (fun _ => key _)
    · rw [ht]
      refine br_f (by decide) (br_f (by decide) (py_a hw hT hs (by omega) rfl (P := fun z => wY_follows_36 post (nI s) (nI p) (nI 14) z yl yt yk tok len nxt tx dos ag tc tp td kp) (by omega) (by omega) ?_))
      rw [pE_14 ht] at h
      have key : ∀ c : Int32, wY_follows_56 post (nI s) (nI p) (nI 14) (pg_en (T (17 * (s + 1) + p))) c yl yt yk tok len nxt tx dos ag tc tp td kp := by
        intro c
        iterate 15 refine br_f (by decide) ?_
        refine br_t (by decide) ?_
        rcases pg_bd3 hb with e | e | ⟨j, h1, h2, e⟩
        · rw [e] at h ⊢; exact br_f (by decide) h
        · rw [e] at h ⊢; rw [if_pos rfl, en_3] at h; exact br_t (by decide) h
        · rw [e] at h ⊢
          rw [if_neg (by omega), en_3] at h
          rw [en_3]
          exact br_f (en_n2 (by omega)) h
      exact py_36 hL hl hp (fun _ => key _) (fun _ => key _)
    · rw [ht]
      refine br_f (by decide) (br_f (by decide) (py_a hw hT hs (by omega) rfl (P := fun z => wY_follows_36 post (nI s) (nI p) (nI 15) z yl yt yk tok len nxt tx dos ag tc tp td kp) (by omega) (by omega) ?_))
      rw [pE_15 ht] at h
      have key : ∀ c : Int32, wY_follows_56 post (nI s) (nI p) (nI 15) (pg_en (T (17 * (s + 1) + p))) c yl yt yk tok len nxt tx dos ag tc tp td kp := by
        intro c
        iterate 16 refine br_f (by decide) ?_
        refine br_t (by decide) ?_
        rcases pg_bd3 hb with e | e | ⟨j, h1, h2, e⟩
        · rw [e] at h ⊢; exact br_f (by decide) h
        · rw [e] at h ⊢; exact br_f (by decide) h
        · rw [e] at h ⊢
          rw [if_neg (by omega), en_3] at h
          rw [en_3]
          exact br_t (nI_pos' (by omega)) h
      exact py_36 hL hl hp (fun _ => key _) (fun _ => key _)
    · rw [ht]
      refine br_f (by decide) (br_f (by decide) (py_a hw hT hs (by omega) rfl (P := fun z => wY_follows_36 post (nI s) (nI p) (nI 16) z yl yt yk tok len nxt tx dos ag tc tp td kp) (by omega) (by omega) ?_))
      rw [pE_16 ht] at h
      have key : ∀ c : Int32, wY_follows_56 post (nI s) (nI p) (nI 16) (pg_en (T (17 * (s + 1) + p))) c yl yt yk tok len nxt tx dos ag tc tp td kp := by
        intro c
        iterate 17 refine br_f (by decide) ?_
        refine br_t (by decide) ?_
        rcases pg_bd3 hb with e | e | ⟨j, h1, h2, e⟩
        · rw [e] at h ⊢; exact br_t (by decide) h
        · rw [e] at h ⊢; rw [if_neg (by decide), if_pos rfl, en_3] at h; exact br_f (by decide) (br_t (by decide) h)
        · rw [e] at h ⊢
          rw [if_neg (by omega), if_neg (by omega)] at h
          rw [en_3]
          exact br_f (en_n3 (by omega)) (br_f (en_n2 (by omega)) h)
      exact py_36 hL hl hp (fun _ => key _) (fun _ => key _)
  · rw [pE_20 ht] at h
    have hz := hw.1 (gt s - 20) (by omega)
    refine br_f (nI_nlt (b := 10) (by omega) (by omega)) (br_t (nI_lt (a := 16) (by omega) (by omega)) ?_)
    have key : ∀ c : Int32, wY_follows_56 post (nI s) (nI p) (nI (gt s)) 0 c yl yt yk tok len nxt tx dos ag tc tp td kp := by
      intro c
      have k2 : wY_follows_363 post (nI p) (nI (gt s)) yl yt yk tok len nxt tx dos ag tc tp td kp := by
        have e : nI (gt s) - 20 = nI (gt s - 20) := pk_sub (b := 20) (by omega)
        have e2 : 204 * nI (gt s - 20) + nI p = nI (17 * (12 * (gt s - 20)) + p) := by
          rw [show (204 : Int32) = nI 204 from rfl, pk_mul, nI_add]; exact congrArg nI (by omega)
        unfold wY_follows_363
        rw [e, nI_clamp (by omega), hG.2 _ (by omega)]
        refine ⟨vp_in_nI (by omega) (by decide), ?_⟩
        by_cases z : gz (gt s - 20) = 0
        · rw [if_pos z] at h
          exact br_t (by rw [z]; rfl) h
        · rw [if_neg z] at h
          rw [e2, nI_clamp (by omega), hT.1 _ (by omega)]
          exact br_f (nI_ne0 (by omega) (by omega)) ⟨vp_in_nI (by omega) (by decide), h⟩
      have h4 : gt s = 20 ∨ gt s = 21 ∨ gt s = 22 ∨ gt s = 23 := by omega
      rcases h4 with e | e | e | e
      · rw [e] at k2 ⊢
        iterate 21 refine br_f (by decide) ?_
        exact br_t (by decide) k2
      · rw [e] at k2 ⊢
        iterate 22 refine br_f (by decide) ?_
        exact br_t (by decide) k2
      · rw [e] at k2 ⊢
        iterate 23 refine br_f (by decide) ?_
        exact br_t (by decide) k2
      · rw [e] at k2 ⊢
        iterate 24 refine br_f (by decide) ?_
        exact br_t (by decide) k2
    exact py_36 hL hl hp (fun _ => key _) (fun _ => key _)
  · rw [pE_m (by omega)] at h
    refine br_f (nI_nlt (b := 10) (by omega) (by omega)) (br_t (nI_lt (a := 16) (by omega) (by omega)) ?_)
    refine py_36 hL hl hp (fun h1 => ?_) (fun h1 => ?_)
    · refine br_f (nI_nlt (b := 1) (by omega) (by omega)) (br_t (nI_lt (a := 23) (by omega) (by omega)) (br_c (fun h2 => ?_) (fun h2 => ?_)))
      · rw [show pg_m gt tx L s p = true from decide_eq_true ⟨h1, Or.inr ⟨by omega, Or.inr h2.symm⟩⟩, if_pos rfl, show p + 4 = (p + 1) + 3 from rfl, en_3] at h; rw [nI_1]; exact h
      · rw [show pg_m gt tx L s p = false from decide_eq_false (by rintro ⟨_, ⟨h4, _⟩ | ⟨_, h4 | h4⟩⟩; omega; omega; exact h2 h4.symm)] at h; exact h
    · rw [show pg_m gt tx L s p = false from decide_eq_false (fun h2 => h1 h2.1)] at h
      refine br_f (nI_nlt (b := 1) (by omega) (by omega)) (br_t (nI_lt (a := 23) (by omega) (by omega)) (br_f (fun h2 => ?_) h))
      have h3 := h97 (gt s) ht.1 ht.2
      rw [← h2] at h3
      exact absurd h3 (by decide)
theorem py_re (hw : pg_WF gt gn gz) (hL : L ≤ 16) (hB : pg_BY gt gz L T) (hT : pg_TY dos ag T) (hs : pg_lv gz s) (hp : p ≤ L) (ht : gt s = 12 ∨ gt s = 13) (h : post (pg_en (pg_Ga T s p))) : wpY_repeats post (yl, yt, yk, tok, len, nxt, tx, dos, ag, tc, tp, td, kp) (nI s) (nI p) := by
  have hs1 := hs.1
  have l1 := (pg_lv_1 hw hs (by omega) (by omega)).1
  have hl1 := l1.1
  have hb := pg_bx (pg_byx hB) hL l1 hp
  unfold wpY_repeats
  dsimp only
  rw [nI_1, pq_17, nI_clamp (by omega), hT.1 _ (by omega)]
  refine ⟨vp_in_nI (by omega) (by decide), nm_e ?_⟩
  unfold pg_Ga at h
  rcases pg_bd3 hb with e | e | ⟨j, h1, h2, e⟩
  · rw [e] at h ⊢; exact br_t (by decide) h
  · rw [e] at h ⊢; rw [if_neg (by decide), if_pos (Or.inl rfl), en_3] at h; exact br_f (by decide) (br_t (by decide) h)
  · rw [e] at h ⊢
    rw [if_neg (by omega), Nat.add_sub_cancel] at h
    rw [en_3]
    refine br_f (en_n3 (by omega)) (br_f (en_n2 (by omega)) (pk_eq j p (fun e3 => ?_) (fun e3 => ?_)))
    · rw [if_pos (by omega), en_3] at h; exact h
    · rw [if_neg (by omega)] at h
      rw [pq_17, nI_clamp (by omega), hT.2 _ (by omega), pq_817]
      exact ⟨vp_in_nI (by omega) (by decide), h⟩
end

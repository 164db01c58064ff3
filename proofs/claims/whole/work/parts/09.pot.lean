def pg_gs : Nat → Nat
  | 0 => 0
  | k + 1 => pg_gs k + (k + 1)
theorem pg_gs_mono {a b : Nat} (h : a ≤ b) : pg_gs a ≤ pg_gs b := by
  induction b with
  | zero => rw [show a = 0 by omega]; exact Nat.le_refl _
  | succ b ih =>
    by_cases e : a = b + 1
    · rw [e]; exact Nat.le_refl _
    · have := ih (by omega)
      have e2 : pg_gs (b + 1) = pg_gs b + (b + 1) := rfl
      omega
theorem pg_gs_12 {a : Nat} (h : a ≤ 12) : pg_gs a ≤ 78 := pg_gs_mono h
/-- how many steps an expression of z tokens may take over l letters -/
def pg_f (z l : Nat) : Nat := z + pg_gs z * l
theorem pg_f_pos {z l : Nat} (h : 1 ≤ z) : 1 ≤ pg_f z l := by unfold pg_f; omega
theorem pg_f_12 {z l : Nat} (h : z ≤ 12) (hl : l ≤ 16) : pg_f z l ≤ 1260 := by
  unfold pg_f
  have h1 : pg_gs z * l ≤ 78 * 16 := Nat.mul_le_mul (pg_gs_12 h) hl
  omega
theorem pg_f_seq {z z1 z2 l1 l2 : Nat} (h : z = 1 + z1 + z2) : 1 + pg_f z1 l1 + pg_f z2 l2 ≤ pg_f z (l1 + l2) := by
  unfold pg_f
  have h1 : pg_gs z1 * l1 ≤ pg_gs z * l1 := Nat.mul_le_mul_right _ (pg_gs_mono (by omega))
  have h2 : pg_gs z2 * l2 ≤ pg_gs z * l2 := Nat.mul_le_mul_right _ (pg_gs_mono (by omega))
  rw [Nat.mul_add]
  omega
theorem pg_f_one {z z1 l : Nat} (h : 1 + z1 ≤ z) : 1 + pg_f z1 l ≤ pg_f z l := by
  unfold pg_f
  have h1 : pg_gs z1 * l ≤ pg_gs z * l := Nat.mul_le_mul_right _ (pg_gs_mono (by omega))
  omega
theorem pg_f_le {z l l' : Nat} (h : l ≤ l') : pg_f z l ≤ pg_f z l' := by
  unfold pg_f
  have h1 : pg_gs z * l ≤ pg_gs z * l' := Nat.mul_le_mul_left _ h
  omega
theorem pg_f_rep {z l1 l2 : Nat} (hl : 1 ≤ l1) : 1 + pg_f z l1 + pg_f (z + 1) l2 ≤ pg_f (z + 1) (l1 + l2) := by
  unfold pg_f
  have e : pg_gs (z + 1) = pg_gs z + (z + 1) := rfl
  rw [Nat.mul_add, e, Nat.add_mul (pg_gs z) (z + 1) l1]
  have h1 : (z + 1) * 1 ≤ (z + 1) * l1 := Nat.mul_le_mul_left _ hl
  omega
def pg_pot (gn T : Nat → Nat) (s p : Nat) : Nat := pg_f (gn s - s) (T (17 * s + p) - 3 - p)
/-- the potential of a stack -/
def pg_S (gn T sl pl : Nat → Nat) : Nat → Nat
  | 0 => 0
  | m + 1 => pg_S gn T sl pl m + pg_pot gn T (sl m) (pl m)
theorem pg_S_set {gn T sl pl : Nat → Nat} {j s p : Nat} : ∀ m, m ≤ j → pg_S gn T (pu_set sl j s) (pu_set pl j p) m = pg_S gn T sl pl m
  | 0, _ => rfl
  | m + 1, h => by
    unfold pg_S
    rw [pg_S_set m (by omega), pu_n (by omega), pu_n (by omega)]
theorem pg_S_push {gn T sl pl : Nat → Nat} {m s p : Nat} : pg_S gn T (pu_set sl m s) (pu_set pl m p) (m + 1) = pg_S gn T sl pl m + pg_pot gn T s p := by
  rw [show pg_S gn T (pu_set sl m s) (pu_set pl m p) (m + 1) = pg_S gn T (pu_set sl m s) (pu_set pl m p) m + pg_pot gn T (pu_set sl m s m) (pu_set pl m p m) from rfl, pg_S_set m (Nat.le_refl m), pu_s, pu_s]
/-- an entry of the stack, at height h, with n nodes kept -/
def pg_OK (gt gn gz T : Nat → Nat) (L h n s p : Nat) : Prop := pg_lv gz s ∧ p ≤ L ∧ (3 ≤ T (17 * s + p) ∨ (gt s = 13 ∧ T (17 * s + p) = 1)) ∧ h + (gn s - s) ≤ 12 * n
def pg_St (gt gn gz T : Nat → Nat) (L m n : Nat) (ss sp sd tc tp td : Nat → Int32) (sl pl : Nat → Nat) : Prop := ∀ h, h < m → ss h = nI (sl h) ∧ sp h = nI (pl h) ∧ tc h = nI (sl h) ∧ tp h = nI (pl h) ∧ sd h = td h ∧ pg_OK gt gn gz T L h n (sl h) (pl h)
def pg_N (n : Nat) (nr ns ne nd kp : Nat → Int32) : Prop := ∀ j, j < n → kp (4 * j) = nr j ∧ kp (4 * j + 1) = ns j ∧ kp (4 * j + 2) = ne j ∧ kp (4 * j + 3) = nd j
section
variable {gt gn gz T : Nat → Nat} {L m n s p : Nat} {ss sp sd tc tp td nr ns ne nd kp : Nat → Int32} {sl pl : Nat → Nat}
theorem pg_St_push {d : Int32} (h : pg_St gt gn gz T L m n ss sp sd tc tp td sl pl) (hok : pg_OK gt gn gz T L m n s p) : pg_St gt gn gz T L (m + 1) n (upd ss m (nI s)) (upd sp m (nI p)) (upd sd m d) (upd tc m (nI s)) (upd tp m (nI p)) (upd td m d) (pu_set sl m s) (pu_set pl m p) := by
  intro k hk
  by_cases e : k = m
  · subst e
    rw [pk_us, pk_us, pk_us, pk_us, pk_us, pk_us, pu_s, pu_s]
    exact ⟨rfl, rfl, rfl, rfl, rfl, hok⟩
  · rw [pk_un e, pk_un e, pk_un e, pk_un e, pk_un e, pk_un e, pu_n e, pu_n e]
    exact h k (by omega)
theorem pg_St_mono {n' m' : Nat} (hn : n ≤ n') (hm : m' ≤ m) (h : pg_St gt gn gz T L m n ss sp sd tc tp td sl pl) : pg_St gt gn gz T L m' n' ss sp sd tc tp td sl pl := by
  intro k hk
  obtain ⟨h1, h2, h3, h4, h5, h6, h7, h8, h9⟩ := h k (by omega)
  exact ⟨h1, h2, h3, h4, h5, h6, h7, h8, by omega⟩
theorem pg_N_add {a b c d : Int32} (h : pg_N n nr ns ne nd kp) : pg_N (n + 1) (upd nr n a) (upd ns n b) (upd ne n c) (upd nd n d) (upd (upd (upd (upd kp (4 * n) a) (4 * n + 1) b) (4 * n + 2) c) (4 * n + 3) d) := by
  intro j hj
  by_cases e : j = n
  · subst e
    rw [pk_us, pk_us, pk_us, pk_us, pk_un (by omega), pk_un (by omega), pk_un (by omega), pk_us, pk_un (by omega), pk_un (by omega), pk_us, pk_un (by omega), pk_us, pk_us]
    exact ⟨rfl, rfl, rfl, rfl⟩
  · rw [pk_un e, pk_un e, pk_un e, pk_un e, pk_un (by omega), pk_un (by omega), pk_un (by omega), pk_un (by omega), pk_un (by omega), pk_un (by omega), pk_un (by omega), pk_un (by omega), pk_un (by omega), pk_un (by omega), pk_un (by omega), pk_un (by omega), pk_un (by omega), pk_un (by omega), pk_un (by omega), pk_un (by omega)]
    exact h j (by omega)
end

/-! counted loops -/
theorem fl_loop (L : Nat → (Nat → Int32) → Int32 → (Nat → Int32)) (K : Nat) (g : Nat → Int32) (hs : ∀ n f i, i < K → L (n + 1) f (nI i) = L n (upd f i (g i)) (nI (i + 1))) (hx : ∀ n f, L (n + 1) f (nI K) = f) : ∀ (n i : Nat) (f : Nat → Int32), i ≤ K → K < i + n → L n f (nI i) = fun j => if i ≤ j ∧ j < K then g j else f j := by
  intro n
  induction n with
  | zero => intro i f h1 h2; omega
  | succ n ih =>
    intro i f h1 h2
    by_cases h : i = K
    · subst h
      rw [hx]
      funext j
      rw [if_neg (by omega)]
    · rw [hs n f i (by omega), ih (i + 1) _ (by omega) (by omega)]
      funext j
      by_cases hj : j = i
      · subst hj
        rw [if_neg (by omega), if_pos (by omega)]
        simp [upd]
      · by_cases hj2 : i ≤ j ∧ j < K
        · rw [if_pos (by omega), if_pos hj2]
        · rw [if_neg (by omega), if_neg hj2]
          simp [upd, hj]
theorem fl_all (L : Nat → (Nat → Int32) → Int32 → (Nat → Int32)) (K : Nat) (g : Nat → Int32) (hK : K < 4096) (hs : ∀ n f i, i < K → L (n + 1) f (nI i) = L n (upd f i (g i)) (nI (i + 1))) (hx : ∀ n f, L (n + 1) f (nI K) = f) (f : Nat → Int32) : L FU f 0 = fun j => if j < K then g j else f j := by
  have h := fl_loop L K g hs hx FU 0 f (Nat.zero_le _) (by have := FU_ge; omega)
  rw [nI_0] at h
  rw [h]
  funext j
  by_cases hj : j < K
  · rw [if_pos ⟨Nat.zero_le _, hj⟩, if_pos hj]
  · rw [if_neg (fun q => hj q.2), if_neg hj]
/-- a counted loop whose state goes through S -/
def itr {σ : Type} (S : σ → Nat → σ) : Nat → Nat → σ → σ
  | 0, _, s => s
  | d + 1, i, s => itr S d (i + 1) (S s i)
theorem itr_loop {σ τ : Type} (L : Nat → σ → Int32 → τ) (K : Nat) (X : σ → τ) (S : σ → Nat → σ) (hs : ∀ n s i, i < K → L (n + 1) s (nI i) = L n (S s i) (nI (i + 1))) (hx : ∀ n s, L (n + 1) s (nI K) = X s) : ∀ (n i : Nat) (s : σ), i ≤ K → K < i + n → L n s (nI i) = X (itr S (K - i) i s) := by
  intro n
  induction n with
  | zero => intro i f h1 h2; omega
  | succ n ih =>
    intro i s h1 h2
    by_cases h : i = K
    · subst h
      rw [hx, Nat.sub_self]
      rfl
    · rw [hs n s i (by omega), ih (i + 1) _ (by omega) (by omega), show K - i = (K - (i + 1)) + 1 by omega]
      rfl
theorem itr_all {σ τ : Type} (L : Nat → σ → Int32 → τ) (K : Nat) (hK : K < 4096) (X : σ → τ) (S : σ → Nat → σ) (hs : ∀ n s i, i < K → L (n + 1) s (nI i) = L n (S s i) (nI (i + 1))) (hx : ∀ n s, L (n + 1) s (nI K) = X s) (s : σ) : L FU s 0 = X (itr S K 0 s) := by
  have h := itr_loop L K X S hs hx FU 0 s (Nat.zero_le _) (by have := FU_ge; omega)
  rw [nI_0] at h
  exact h
theorem itr_snoc {σ : Type} (S : σ → Nat → σ) : ∀ (d i : Nat) (s : σ), itr S (d + 1) i s = S (itr S d i s) (i + d)
  | 0, i, s => rfl
  | d + 1, i, s => by
    show itr S (d + 1) (i + 1) (S s i) = _
    rw [itr_snoc S d (i + 1) (S s i), show i + 1 + d = i + (d + 1) by omega]
    rfl
theorem itr_ind {σ : Type} (S : σ → Nat → σ) (I : Nat → σ → Prop) (d : Nat) (s : σ) (h0 : I 0 s) (hs : ∀ i s, i < d → I i s → I (i + 1) (S s i)) : I d (itr S d 0 s) := by
  have : ∀ k, k ≤ d → I k (itr S k 0 s) := by
    intro k
    induction k with
    | zero => intro _; exact h0
    | succ k ih =>
      intro hk
      rw [itr_snoc, Nat.zero_add]
      exact hs k _ (by omega) (ih (by omega))
  exact this d (Nat.le_refl _)
theorem ok_loop {σ : Type} (L : Nat → σ → Int32 → Prop) (K : Nat) (I : Nat → σ → Prop) (hs : ∀ n s i, i < K → I i s → (∀ s', I (i + 1) s' → L n s' (nI (i + 1))) → L (n + 1) s (nI i)) (hx : ∀ n s, I K s → L (n + 1) s (nI K)) : ∀ (n i : Nat) (s : σ), i ≤ K → K < i + n → I i s → L n s (nI i) := by
  intro n
  induction n with
  | zero => intro i f h1 h2; omega
  | succ n ih =>
    intro i s h1 h2 hI
    by_cases h : i = K
    · subst h; exact hx n s hI
    · exact hs n s i (by omega) hI (fun s' h' => ih (i + 1) s' (by omega) (by omega) h')
theorem ok_all {σ : Type} (L : Nat → σ → Int32 → Prop) (K : Nat) (hK : K < 4096) (I : Nat → σ → Prop) (hs : ∀ n s i, i < K → I i s → (∀ s', I (i + 1) s' → L n s' (nI (i + 1))) → L (n + 1) s (nI i)) (hx : ∀ n s, I K s → L (n + 1) s (nI K)) (s : σ) (h0 : I 0 s) : L FU s 0 := by
  have h := ok_loop L K I hs hx FU 0 s (Nat.zero_le _) (by have := FU_ge; omega) h0
  rw [nI_0] at h
  exact h
/-- written numbers as nI, for the loops' tests -/
theorem le_lit {K i : Nat} (k : Int32) (hk : k = nI K) (h : i < K) (hK : K < 2 ^ 31) : ¬ k ≤ nI i := by rw [hk]; exact nI_ge h hK
theorem le_self {K : Nat} (k : Int32) (hk : k = nI K) : k ≤ nI K := by rw [hk]; exact Int32.le_refl _
/-- BoathouseKeyModel.begin -/
theorem beg_eq (live kept row : Nat → Int32) : F_X12_begin live kept row = (0, (fun j => if j < 7 then (if j = 1 then 10 else 0) else live j), upd (upd kept 0 0) 1 0, fun j => if j < 10 then 99 else row j) := by
  unfold F_X12_begin F_X12_begin_b31 F_X12_begin_b53
  have e1 := fl_all (fun n f v => F_X12_begin_L2 n f v) 7 (fun j => if j = 1 then 10 else 0) (by decide)
    (fun n f i hi => by
      rw [F_X12_begin_L2_s, if_neg (le_lit 7 rfl hi (by decide)), nI_1, nI_clamp (by omega)]
      congr 2
      by_cases h : i = 1
      · subst h; rfl
      · rw [if_neg h, if_neg (show ¬ nI i = (1 : Int32) from fun q => h ((nI_eq (b := 1) (by omega) (by decide)).mp q))])
    (fun n f => by rw [F_X12_begin_L2_s, if_pos (le_self 7 rfl)]) live
  have e2 := fl_all (fun n f v => F_X12_begin_L33 n f v) 10 (fun _ => 99) (by decide)
    (fun n f i hi => by rw [F_X12_begin_L33_s, if_neg (le_lit 10 rfl hi (by decide)), nI_1, nI_clamp (by omega)])
    (fun n f => by rw [F_X12_begin_L33_s, if_pos (le_self 10 rfl)]) row
  simp only [e1, e2]
  rfl
theorem beg_ok (live row : Nat → Int32) : ok_X12_begin live row := by
  unfold ok_X12_begin ok_X12_begin_b31 ok_X12_begin_b53
  refine ⟨?_, ?_, vp_in_nI (n := 0) (by decide) (by decide), vp_in_nI (n := 1) (by decide) (by decide)⟩
  · exact ok_all (fun n f v => ok_X12_begin_L2 n f v) 7 (by decide) (fun _ _ => True) (fun n s i hi _ h => by rw [ok_X12_begin_L2_s]; intro _; refine ⟨vp_in_nI hi (by decide), ?_⟩; rw [nI_1]; exact h _ trivial) (fun n s _ => by rw [ok_X12_begin_L2_s]; intro h; exact absurd (le_self 7 rfl) h) live trivial
  · exact ok_all (fun n f v => ok_X12_begin_L33 n f v) 10 (by decide) (fun _ _ => True) (fun n s i hi _ h => by rw [ok_X12_begin_L33_s]; intro _; refine ⟨vp_in_nI hi (by decide), ?_⟩; rw [nI_1]; exact h _ trivial) (fun n s _ => by rw [ok_X12_begin_L33_s]; intro h; exact absurd (le_self 10 rfl) h) row trivial
theorem okc_X1_init (person first last b e c n : Nat → Int32) : ok_X1_arrange 0 person first last b e c n := by
  have h := arr_ok (k := 0) (by decide) person first last b e c n
  rw [nI_0] at h
  exact h

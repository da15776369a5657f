/-! the script machine, pure: stack a, size n, op k, its int v -/
def fx_hash (x : Int32) : Int32 := if 0 ≤ (x.toInt64 * 31 + 7) - (x.toInt64 * 31 + 7) / 1009 * 1009 then ((x.toInt64 * 31 + 7) - (x.toInt64 * 31 + 7) / 1009 * 1009).toInt32 else (((x.toInt64 * 31 + 7) - (x.toInt64 * 31 + 7) / 1009 * 1009) + 1009).toInt32
def fx_do (a : Nat → Int32) (n : Nat) (k : Nat) (v h : Int32) : (Nat → Int32) × Nat :=
  match k with
  | 0 => (upd a n v, n + 1)
  | 1 => (upd a n (a (n - 1)), n + 1)
  | 2 => (a, n - 1)
  | 3 => (upd (upd a (n - 1) (a (n - 2))) (n - 2) (a (n - 1)), n)
  | 4 => (upd a (n - 2) (a (n - 2) + a (n - 1)), n - 1)
  | 5 => (upd a (n - 2) (a (n - 2) * a (n - 1)), n - 1)
  | 6 => (upd a (n - 2) (if a (n - 2) = a (n - 1) then 1 else 0), n - 1)
  | 7 => (upd a (n - 2) (if a (n - 1) ≤ a (n - 2) then 0 else 1), n - 1)
  | 8 => (a, n - 1)
  | 9 => (upd a (n - 1) (fx_hash (a (n - 1))), n)
  | 10 => (a, n)
  | 11 => (upd a n h, n + 1)
  | _ => (a, n - 1)
def fx_need (k : Nat) : Nat :=
  match k with
  | 0 => 0
  | 10 => 0
  | 11 => 0
  | 3 => 2
  | 4 => 2
  | 5 => 2
  | 6 => 2
  | 7 => 2
  | _ => 1
def fx_more (k : Nat) : Nat :=
  match k with
  | 0 => 1
  | 1 => 1
  | 11 => 1
  | _ => 0
/-- r tokens left from place p, the next s of them are passed over -/
def fx_run (op arg : Nat → Int32) (h g : Int32) : Nat → Nat → Nat → (Nat → Int32) → Nat → Prop
  | 0, _, _, a, n => 0 < n ∧ ¬ a (n - 1) = 0
  | r + 1, p, s + 1, a, n => fx_run op arg h g r (p + 1) s a n
  | r + 1, p, 0, a, n => fx_need (op p).toNatClampNeg ≤ n ∧ n + fx_more (op p).toNatClampNeg ≤ 6
      ∧ ((op p).toNatClampNeg = 10 → arg p ≤ h - g) ∧ ((op p).toNatClampNeg = 8 → ¬ a (n - 1) = 0)
      ∧ (((op p).toNatClampNeg = 12 ∧ a (n - 1) = 0) → fx_run op arg h g r (p + 1) (arg p).toNatClampNeg (fx_do a n (op p).toNatClampNeg (arg p) h).1 (fx_do a n (op p).toNatClampNeg (arg p) h).2)
      ∧ (¬ ((op p).toNatClampNeg = 12 ∧ a (n - 1) = 0) → fx_run op arg h g r (p + 1) 0 (fx_do a n (op p).toNatClampNeg (arg p) h).1 (fx_do a n (op p).toNatClampNeg (arg p) h).2)
theorem fx_do_n (a b : Nat → Int32) (n k : Nat) (v h : Int32) : (fx_do a n k v h).2 = (fx_do b n k v h).2 := by
  unfold fx_do; split <;> rfl
theorem fx_do_c {a b : Nat → Int32} {n k : Nat} (v h : Int32) (hab : ∀ i, i < n → a i = b i) (hn : fx_need k ≤ n) : ∀ i, i < (fx_do a n k v h).2 → (fx_do a n k v h).1 i = (fx_do b n k v h).1 i := by
  unfold fx_do
  unfold fx_need at hn
  split <;> dsimp only at hn ⊢ <;> intro i hi
  case h_1 => unfold upd; split; rfl; exact hab i (by omega)
  case h_2 => have h1 : 1 ≤ n := hn; unfold upd; split; exact hab _ (by omega); exact hab i (by omega)
  case h_3 => exact hab i (by omega)
  case h_4 => unfold upd; rw [hab (n - 1) (by omega), hab (n - 2) (by omega), hab i (by omega)]
  case h_5 => unfold upd; rw [hab (n - 1) (by omega), hab (n - 2) (by omega), hab i (by omega)]
  case h_6 => unfold upd; rw [hab (n - 1) (by omega), hab (n - 2) (by omega), hab i (by omega)]
  case h_7 => unfold upd; rw [hab (n - 1) (by omega), hab (n - 2) (by omega), hab i (by omega)]
  case h_8 => unfold upd; rw [hab (n - 1) (by omega), hab (n - 2) (by omega), hab i (by omega)]
  case h_9 => exact hab i (by omega)
  case h_10 => unfold upd; rw [hab i (by omega)]; split; rw [hab (n - 1) (by omega)]; rfl
  case h_11 => exact hab i (by omega)
  case h_12 => unfold upd; split; rfl; exact hab i (by omega)
  case h_13 => exact hab i (by omega)
theorem fx_run_c (op arg : Nat → Int32) (h g : Int32) : ∀ (r p s : Nat) (a b : Nat → Int32) (n : Nat), (∀ i, i < n → a i = b i) → fx_run op arg h g r p s a n → fx_run op arg h g r p s b n := by
  intro r
  induction r with
  | zero =>
    intro p s a b n hab hr
    unfold fx_run at hr ⊢
    exact ⟨hr.1, by rw [← hab _ (by omega)]; exact hr.2⟩
  | succ r ih =>
    intro p s a b n hab hr
    cases s with
    | succ s =>
      unfold fx_run at hr ⊢
      exact ih _ _ _ _ _ hab hr
    | zero =>
      unfold fx_run at hr ⊢
      obtain ⟨h1, h2, h3, h4, h5, h6⟩ := hr
      have hc := fx_do_c (arg p) h hab h1
      have e := fx_do_n a b n (op p).toNatClampNeg (arg p) h
      have ht : ∀ {k}, (op p).toNatClampNeg = k → 1 ≤ fx_need k → b (n - 1) = a (n - 1) := fun {k} ek hk => (hab _ (by rw [ek] at h1; omega)).symm
      refine ⟨h1, h2, h3, fun e8 => ?_, fun hb => ?_, fun hb => ?_⟩
      · rw [ht e8 (by decide)]; exact h4 e8
      · rw [← e]
        exact ih _ _ _ _ _ hc (h5 ⟨hb.1, by rw [← ht hb.1 (by decide)]; exact hb.2⟩)
      · rw [← e]
        exact ih _ _ _ _ _ hc (h6 fun z => hb ⟨z.1, by rw [ht z.1 (by decide)]; exact z.2⟩)
theorem fx_run_skip (op arg : Nat → Int32) (h g : Int32) : ∀ (s r p : Nat) (a : Nat → Int32) (n : Nat), s ≤ r → (fx_run op arg h g r p s a n ↔ fx_run op arg h g (r - s) (p + s) 0 a n) := by
  intro s
  induction s with
  | zero => intro r p a n _; rw [Nat.sub_zero, Nat.add_zero]
  | succ s ih =>
    intro r p a n hs
    obtain ⟨r, rfl⟩ : ∃ q, r = q + 1 := ⟨r - 1, by omega⟩
    rw [fx_run, ih r (p + 1) a n (by omega), show r + 1 - (s + 1) = r - s by omega, show p + (s + 1) = p + 1 + s by omega]
theorem fx_run_past (op arg : Nat → Int32) (h g : Int32) : ∀ (r s p : Nat) (a : Nat → Int32) (n : Nat), r ≤ s → (fx_run op arg h g r p s a n ↔ (0 < n ∧ ¬ a (n - 1) = 0)) := by
  intro r
  induction r with
  | zero => intro s p a n _; rw [fx_run]
  | succ r ih =>
    intro s p a n hs
    obtain ⟨s, rfl⟩ : ∃ q, s = q + 1 := ⟨s - 1, by omega⟩
    rw [fx_run, ih s (p + 1) a n (by omega)]
/-- the coin with this script may be unlocked by A, B at height h when it is from height g -/
def fx_fits (tc op arg : Nat → Int32) (s : Nat) (A B h g : Int32) : Prop := fx_run op arg h g (tc s).toNatClampNeg (8 * s) 0 (upd (upd (fun _ => 0) 0 A) 1 B) 2
theorem fx_fits_of (tc op arg st : Nat → Int32) (s : Nat) (A B h g : Int32) : fx_run op arg h g (tc s).toNatClampNeg (8 * s) 0 (upd (upd st 0 A) 1 B) 2 ↔ fx_fits tc op arg s A B h g := by
  have e : ∀ i, i < 2 → upd (upd st 0 A) 1 B i = upd (upd (fun _ => 0) 0 A) 1 B i := by
    intro i hi
    unfold upd
    split
    · rfl
    · rw [if_pos (by omega), if_pos (by omega)]
  exact ⟨fx_run_c _ _ _ _ _ _ _ _ _ _ e, fx_run_c _ _ _ _ _ _ _ _ _ _ fun i hi => (e i hi).symm⟩
/-- the tokens of the scripts are as token lets them be -/
def fx_tok (tc op arg : Nat → Int32) : Prop := ∀ s, s < 8 → ∃ L, L ≤ 8 ∧ tc s = nI L ∧ ∀ i, i < L → ∃ k, k ≤ 12 ∧ op (8 * s + i) = nI k ∧ (k = 12 → ∃ v, v ≤ 8 ∧ arg (8 * s + i) = nI v)

section
theorem pk_us {f : Nat → Int32} {k : Nat} {x : Int32} : upd f k x k = x := if_pos rfl
theorem pk_un {f : Nat → Int32} {k j : Nat} {x : Int32} (h : j ≠ k) : upd f k x j = f j := if_neg h
theorem pk_sub {a b : Nat} (h : b ≤ a) : nI a - nI b = nI (a - b) := by
  obtain ⟨c, rfl⟩ : ∃ c, a = c + b := ⟨a - b, by omega⟩
  rw [← nI_add, Int32.add_sub_cancel, Nat.add_sub_cancel]
theorem pk_m1 (n : Nat) : nI (n + 1) + (-1) = nI n := by
  rw [← nI_1, Int32.add_assoc, show (1 : Int32) + (-1) = 0 from rfl, Int32.add_zero]
theorem pk_mul (a b : Nat) : nI a * nI b = nI (a * b) := (Int32.ofNat_mul a b).symm
theorem pk_div {a d : Nat} (ha : a < 2 ^ 31) (h0 : 0 < d) (hd : d < 2 ^ 31) : nI a / nI d = nI (a / d) := by
  apply Int32.toInt_inj.mp
  rw [lg_idiv_nonneg (by rw [nI_toInt ha]; omega) (by rw [nI_toInt hd]; omega), nI_toInt ha, nI_toInt hd, nI_toInt (Nat.lt_of_le_of_lt (Nat.div_le_self a d) ha)]
  first | rfl | exact (Int.natCast_ediv _ _).symm
theorem pk_rem {a d : Nat} (ha : a < 2 ^ 31) (h0 : 0 < d) (hd : d < 2 ^ 31) : nI a - nI a / nI d * nI d = nI (a % d) := by
  rw [pk_div ha h0 hd, pk_mul, pk_sub (Nat.div_mul_le_self a d)]
  exact congrArg nI (by have := Nat.div_add_mod' a d; omega)
theorem pk_sub_toInt {a b : Nat} (ha : a < 2 ^ 30) (hb : b < 2 ^ 30) : (nI a - nI b).toInt = (a : Int) - b := by
  rw [Int32.toInt_sub, nI_toInt (by omega), nI_toInt (by omega)]
  exact Int.bmod_eq_of_le (by omega) (by omega)
theorem pk_sneg {a b : Nat} (hb : b < 2 ^ 30) (h : a < b) : nI a - nI b < 0 := by
  rw [Int32.lt_iff_toInt_lt, pk_sub_toInt (by omega) hb, show (0 : Int32).toInt = 0 from by decide]
  omega
theorem pk_ix (x : Int32) {n : Nat} (hn : n < 2 ^ 31) : x < 0 ∨ nI n ≤ x ∨ ∃ j : Nat, j < n ∧ x = nI j := by
  by_cases h : x < 0
  · exact Or.inl h
  · obtain ⟨j, hj, rfl⟩ := nI_of h
    by_cases h2 : j < n
    · exact Or.inr (Or.inr ⟨j, h2, rfl⟩)
    · exact Or.inr (Or.inl (nI_le (by omega) hj))
theorem pk_le {x y : Int32} {A B : Prop} (a b : Nat) (f : a ≤ b → A) (g : b < a → B) (hx : x = nI a := by rfl) (hy : y = nI b := by rfl) (ha : a < 2 ^ 31 := by omega) (hb : b < 2 ^ 31 := by omega) : (x ≤ y → A) ∧ (¬ x ≤ y → B) := by
  subst hx hy
  rw [nI_leI ha hb]
  exact ⟨f, fun z => g (by omega)⟩
theorem pk_lt {x y : Int32} {A B : Prop} (a b : Nat) (f : a < b → A) (g : b ≤ a → B) (hx : x = nI a := by rfl) (hy : y = nI b := by rfl) (ha : a < 2 ^ 31 := by omega) (hb : b < 2 ^ 31 := by omega) : (x < y → A) ∧ (¬ x < y → B) := by
  subst hx hy
  rw [nI_ltI ha hb]
  exact ⟨f, fun z => g (by omega)⟩
theorem pk_eq {x y : Int32} {A B : Prop} (a b : Nat) (f : a = b → A) (g : a ≠ b → B) (hx : x = nI a := by rfl) (hy : y = nI b := by rfl) (ha : a < 2 ^ 31 := by omega) (hb : b < 2 ^ 31 := by omega) : (x = y → A) ∧ (¬ x = y → B) := by
  subst hx hy
  rw [nI_eq ha hb]
  exact ⟨f, g⟩
theorem pk_in {x : Int32} (n N : Nat) (h : n < N) (hx : x = nI n := by rfl) (hN : N < 2 ^ 31 := by omega) : vp_in x N := by
  subst hx
  exact vp_in_nI h hN
theorem pk_cl {x : Int32} (n : Nat) (hx : x = nI n := by rfl) (h : n < 2 ^ 31 := by omega) : x.toNatClampNeg = n := by
  subst hx
  exact nI_clamp h
theorem pk_tn {n : Nat} (h : n < 2 ^ 32) : (nI n).toBitVec.toNat = n := Nat.mod_eq_of_lt h
theorem pk_shl (a s : Int32) (k : Nat) (hs : (s.toBitVec.smod 32).toNat = k) : (a <<< s).toBitVec.toNat = a.toBitVec.toNat * 2 ^ k % 2 ^ 32 := by
  show (a.toBitVec <<< (s.toBitVec.smod 32).toNat).toNat = _
  rw [hs, BitVec.toNat_shiftLeft, Nat.shiftLeft_eq]
theorem pk_shlN {n : Nat} (s : Int32) (k : Nat) (hs : (s.toBitVec.smod 32).toNat = k) (h : n * 2 ^ k < 2 ^ 32) : nI n <<< s = nI (n * 2 ^ k) := by
  apply Int32.toBitVec_inj.mp
  apply BitVec.eq_of_toNat_eq
  have hn : n < 2 ^ 32 := Nat.lt_of_le_of_lt (Nat.le_mul_of_pos_right n (Nat.two_pow_pos k)) h
  rw [pk_shl _ _ k hs, pk_tn hn, pk_tn h, Nat.mod_eq_of_lt h]
theorem pk_shr (a s : Int32) (k : Nat) (hs : (s.toBitVec.smod 32).toNat = k) : (a >>> s).toInt = a.toInt >>> k := by
  show (a.toBitVec.sshiftRight (s.toBitVec.smod 32).toNat).toInt = _
  rw [hs, BitVec.toInt_sshiftRight]
  rfl
theorem pk_shrN {n : Nat} (h : n < 2 ^ 31) (s : Int32) (k : Nat) (hs : (s.toBitVec.smod 32).toNat = k) : nI n >>> s = nI (n / 2 ^ k) := by
  apply Int32.toInt_inj.mp
  have h2 : n / 2 ^ k ≤ n := Nat.div_le_self _ _
  rw [pk_shr _ _ k hs, nI_toInt h, nI_toInt (by omega), Int.shiftRight_eq_div_pow]
  rfl
theorem pk_loop {σ : Type} (W : Nat → Nat → σ → Prop) (I : Nat → σ → Prop) (e i0 : Nat) (s : σ) (hi : i0 ≤ e) (h0 : I i0 s) (hx : ∀ n s, I e s → W (n + 1) e s)
    (hs : ∀ n i s, i < e → I i s → (∀ s', I (i + 1) s' → W n (i + 1) s') → W (n + 1) i s) : ∃ n, W n i0 s :=
  ⟨e + 1, loop_i W I e hx hs (e + 1) i0 s hi (by omega) h0⟩
theorem pk_loopD {σ : Type} (W : Nat → Nat → σ → Prop) (I : Nat → σ → Prop) (hx : ∀ n s, I 0 s → W (n + 1) 0 s)
    (hs : ∀ n i s, I (i + 1) s → (∀ s', I i s' → W n i s') → W (n + 1) (i + 1) s) : ∀ (e : Nat) (s : σ), I e s → W (e + 1) e s := by
  intro e
  induction e with
  | zero => exact fun s h => hx 0 s h
  | succ e ih => exact fun s h => hs (e + 1) e s h (fun s' h' => ih s' h')
theorem lp1 {A1 : Type} (W : Nat → A1 → Prop) (I : A1 → Prop) (μ : A1 → Nat) (hs : ∀ (n : Nat) (a1 : A1), I a1 → (∀ (b1 : A1), I b1 → μ b1 < μ a1 → W n b1) → W (n + 1) a1) (a1 : A1) (h : I a1) : ∃ n, W n a1 :=
  loop_m (σ := A1) (fun n s => W n s) (fun s => I s) (fun s => μ s) (fun n s hI hk => hs n s hI (fun b1 h9 hm => hk b1 h9 hm)) a1 h
theorem lp2 {A1 A2 : Type} (W : Nat → A1 → A2 → Prop) (I : A1 → A2 → Prop) (μ : A1 → A2 → Nat) (hs : ∀ (n : Nat) (a1 : A1) (a2 : A2), I a1 a2 → (∀ (b1 : A1) (b2 : A2), I b1 b2 → μ b1 b2 < μ a1 a2 → W n b1 b2) → W (n + 1) a1 a2) (a1 : A1) (a2 : A2) (h : I a1 a2) : ∃ n, W n a1 a2 :=
  loop_m (σ := A1 × A2) (fun n s => W n s.1 s.2) (fun s => I s.1 s.2) (fun s => μ s.1 s.2) (fun n s hI hk => hs n s.1 s.2 hI (fun b1 b2 h9 hm => hk (b1, b2) h9 hm)) (a1, a2) h
theorem lp3 {A1 A2 A3 : Type} (W : Nat → A1 → A2 → A3 → Prop) (I : A1 → A2 → A3 → Prop) (μ : A1 → A2 → A3 → Nat) (hs : ∀ (n : Nat) (a1 : A1) (a2 : A2) (a3 : A3), I a1 a2 a3 → (∀ (b1 : A1) (b2 : A2) (b3 : A3), I b1 b2 b3 → μ b1 b2 b3 < μ a1 a2 a3 → W n b1 b2 b3) → W (n + 1) a1 a2 a3) (a1 : A1) (a2 : A2) (a3 : A3) (h : I a1 a2 a3) : ∃ n, W n a1 a2 a3 :=
  loop_m (σ := A1 × A2 × A3) (fun n s => W n s.1 s.2.1 s.2.2) (fun s => I s.1 s.2.1 s.2.2) (fun s => μ s.1 s.2.1 s.2.2) (fun n s hI hk => hs n s.1 s.2.1 s.2.2 hI (fun b1 b2 b3 h9 hm => hk (b1, b2, b3) h9 hm)) (a1, a2, a3) h
theorem lp4 {A1 A2 A3 A4 : Type} (W : Nat → A1 → A2 → A3 → A4 → Prop) (I : A1 → A2 → A3 → A4 → Prop) (μ : A1 → A2 → A3 → A4 → Nat) (hs : ∀ (n : Nat) (a1 : A1) (a2 : A2) (a3 : A3) (a4 : A4), I a1 a2 a3 a4 → (∀ (b1 : A1) (b2 : A2) (b3 : A3) (b4 : A4), I b1 b2 b3 b4 → μ b1 b2 b3 b4 < μ a1 a2 a3 a4 → W n b1 b2 b3 b4) → W (n + 1) a1 a2 a3 a4) (a1 : A1) (a2 : A2) (a3 : A3) (a4 : A4) (h : I a1 a2 a3 a4) : ∃ n, W n a1 a2 a3 a4 :=
  loop_m (σ := A1 × A2 × A3 × A4) (fun n s => W n s.1 s.2.1 s.2.2.1 s.2.2.2) (fun s => I s.1 s.2.1 s.2.2.1 s.2.2.2) (fun s => μ s.1 s.2.1 s.2.2.1 s.2.2.2) (fun n s hI hk => hs n s.1 s.2.1 s.2.2.1 s.2.2.2 hI (fun b1 b2 b3 b4 h9 hm => hk (b1, b2, b3, b4) h9 hm)) (a1, a2, a3, a4) h
theorem lp5 {A1 A2 A3 A4 A5 : Type} (W : Nat → A1 → A2 → A3 → A4 → A5 → Prop) (I : A1 → A2 → A3 → A4 → A5 → Prop) (μ : A1 → A2 → A3 → A4 → A5 → Nat) (hs : ∀ (n : Nat) (a1 : A1) (a2 : A2) (a3 : A3) (a4 : A4) (a5 : A5), I a1 a2 a3 a4 a5 → (∀ (b1 : A1) (b2 : A2) (b3 : A3) (b4 : A4) (b5 : A5), I b1 b2 b3 b4 b5 → μ b1 b2 b3 b4 b5 < μ a1 a2 a3 a4 a5 → W n b1 b2 b3 b4 b5) → W (n + 1) a1 a2 a3 a4 a5) (a1 : A1) (a2 : A2) (a3 : A3) (a4 : A4) (a5 : A5) (h : I a1 a2 a3 a4 a5) : ∃ n, W n a1 a2 a3 a4 a5 :=
  loop_m (σ := A1 × A2 × A3 × A4 × A5) (fun n s => W n s.1 s.2.1 s.2.2.1 s.2.2.2.1 s.2.2.2.2) (fun s => I s.1 s.2.1 s.2.2.1 s.2.2.2.1 s.2.2.2.2) (fun s => μ s.1 s.2.1 s.2.2.1 s.2.2.2.1 s.2.2.2.2) (fun n s hI hk => hs n s.1 s.2.1 s.2.2.1 s.2.2.2.1 s.2.2.2.2 hI (fun b1 b2 b3 b4 b5 h9 hm => hk (b1, b2, b3, b4, b5) h9 hm)) (a1, a2, a3, a4, a5) h
theorem pk_least (P : Nat → Prop) (h : ∃ k, P k) : ∃ k, P k ∧ ∀ j, j < k → ¬ P j := by
  obtain ⟨k, hk⟩ := h
  induction k using Nat.strongRecOn with
  | ind k ih =>
    by_cases e : ∃ j, j < k ∧ P j
    · obtain ⟨j, hj, pj⟩ := e
      exact ih j hj pj
    · exact ⟨k, hk, fun j hj pj => e ⟨j, hj, pj⟩⟩
def bt (x : Int32) (i : Nat) : Bool := x.toBitVec.getLsbD i
theorem b_ext {x y : Int32} (h : ∀ i, i < 32 → bt x i = bt y i) : x = y := Int32.toBitVec_inj.mp (BitVec.eq_of_getLsbD_eq (fun i hi => h i hi))
theorem b_or (x y : Int32) (i : Nat) : bt (x ||| y) i = (bt x i || bt y i) := by unfold bt; rw [Int32.toBitVec_or, BitVec.getLsbD_or]
theorem b_and (x y : Int32) (i : Nat) : bt (x &&& y) i = (bt x i && bt y i) := by unfold bt; rw [Int32.toBitVec_and, BitVec.getLsbD_and]
theorem b_big {x : Int32} {i : Nat} (h : 32 ≤ i) : bt x i = false := BitVec.getLsbD_of_ge _ _ h
theorem b_0 (i : Nat) : bt 0 i = false := BitVec.getLsbD_zero
theorem s_l : ∀ n, n < 32 → ((nI n &&& 31).toBitVec.smod 32).toNat = n := by decide +kernel
theorem b_shl (n : Nat) (hn : n < 32) (x : Int32) {i : Nat} (hi : i < 32) : bt (x <<< (nI n &&& 31)) i = (decide (n ≤ i) && bt x (i - n)) := by
  unfold bt
  rw [Int32.toBitVec_shiftLeft]
  show (x.toBitVec <<< ((nI n &&& 31).toBitVec.smod 32).toNat).getLsbD i = _
  rw [s_l n hn, BitVec.getLsbD_shiftLeft]
  rcases Nat.lt_or_ge i n with h | h
  · simp [h, Nat.not_le.mpr h]
  · simp [hi, h, Nat.not_lt.mpr h]
theorem b_sshr (n : Nat) (hn : n < 32) (x : Int32) {i : Nat} (hi : i < 32) : bt (x >>> (nI n &&& 31)) i = if n + i < 32 then bt x (n + i) else bt x 31 := by
  unfold bt
  rw [Int32.toBitVec_shiftRight]
  show (x.toBitVec.sshiftRight ((nI n &&& 31).toBitVec.smod 32).toNat).getLsbD i = _
  rw [s_l n hn, BitVec.getLsbD_sshiftRight, BitVec.msb_eq_getLsbD_last]
  simp [hi]
end
section
/-! the script machine, pure: stack a, size n, op k, its int v -/
def fx_hash (x : Int32) : Int32 := if 0 ≤ (x.toInt64 * 31 + 7) - (x.toInt64 * 31 + 7) / 1009 * 1009 then ((x.toInt64 * 31 + 7) - (x.toInt64 * 31 + 7) / 1009 * 1009).toInt32 else (((x.toInt64 * 31 + 7) - (x.toInt64 * 31 + 7) / 1009 * 1009) + 1009).toInt32
def fx_do (a : Nat → Int32) (n : Nat) (k : Nat) (v h : Int32) : (Nat → Int32) × Nat :=
  match k with
  | 0 => (upd a n v, n + 1)
  | 1 => (upd a n (a (n - 1)), n + 1)
  | 2 => (a, n - 1)
  | 3 => (upd (upd a (n - 1) (a (n - 2))) (n - 2) (a (n - 1)), n)
  | 4 => (upd a (n - 2) (a (n - 2) + a (n - 1)), n - 1)
  | 5 => (upd a (n - 2) (a (n - 2) * a (n - 1)), n - 1)
  | 6 => (upd a (n - 2) (if a (n - 2) = a (n - 1) then 1 else 0), n - 1)
  | 7 => (upd a (n - 2) (if a (n - 1) ≤ a (n - 2) then 0 else 1), n - 1)
  | 8 => (a, n - 1)
  | 9 => (upd a (n - 1) (fx_hash (a (n - 1))), n)
  | 10 => (a, n)
  | 11 => (upd a n h, n + 1)
  | _ => (a, n - 1)
def fx_need (k : Nat) : Nat :=
  match k with
  | 0 => 0
  | 10 => 0
  | 11 => 0
  | 3 => 2
  | 4 => 2
  | 5 => 2
  | 6 => 2
  | 7 => 2
  | _ => 1
def fx_more (k : Nat) : Nat :=
  match k with
  | 0 => 1
  | 1 => 1
  | 11 => 1
  | _ => 0
/-- r tokens left from place p, the next s of them are passed over -/
def fx_run (op arg : Nat → Int32) (h g : Int32) : Nat → Nat → Nat → (Nat → Int32) → Nat → Prop
  | 0, _, _, a, n => 0 < n ∧ ¬ a (n - 1) = 0
  | r + 1, p, s + 1, a, n => fx_run op arg h g r (p + 1) s a n
  | r + 1, p, 0, a, n => fx_need (op p).toNatClampNeg ≤ n ∧ n + fx_more (op p).toNatClampNeg ≤ 6
      ∧ ((op p).toNatClampNeg = 10 → arg p ≤ h - g) ∧ ((op p).toNatClampNeg = 8 → ¬ a (n - 1) = 0)
      ∧ (((op p).toNatClampNeg = 12 ∧ a (n - 1) = 0) → fx_run op arg h g r (p + 1) (arg p).toNatClampNeg (fx_do a n (op p).toNatClampNeg (arg p) h).1 (fx_do a n (op p).toNatClampNeg (arg p) h).2)
      ∧ (¬ ((op p).toNatClampNeg = 12 ∧ a (n - 1) = 0) → fx_run op arg h g r (p + 1) 0 (fx_do a n (op p).toNatClampNeg (arg p) h).1 (fx_do a n (op p).toNatClampNeg (arg p) h).2)
theorem fx_do_n (a b : Nat → Int32) (n k : Nat) (v h : Int32) : (fx_do a n k v h).2 = (fx_do b n k v h).2 := by
  unfold fx_do; split <;> rfl
theorem fx_do_c {a b : Nat → Int32} {n k : Nat} (v h : Int32) (hab : ∀ i, i < n → a i = b i) (hn : fx_need k ≤ n) : ∀ i, i < (fx_do a n k v h).2 → (fx_do a n k v h).1 i = (fx_do b n k v h).1 i := by
  unfold fx_do
  unfold fx_need at hn
  split <;> dsimp only at hn ⊢ <;> intro i hi
  case h_1 => unfold upd; split; rfl; exact hab i (by omega)
  case h_2 => have h1 : 1 ≤ n := hn; unfold upd; split; exact hab _ (by omega); exact hab i (by omega)
  case h_3 => exact hab i (by omega)
  case h_4 => unfold upd; rw [hab (n - 1) (by omega), hab (n - 2) (by omega), hab i (by omega)]
  case h_5 => unfold upd; rw [hab (n - 1) (by omega), hab (n - 2) (by omega), hab i (by omega)]
  case h_6 => unfold upd; rw [hab (n - 1) (by omega), hab (n - 2) (by omega), hab i (by omega)]
  case h_7 => unfold upd; rw [hab (n - 1) (by omega), hab (n - 2) (by omega), hab i (by omega)]
  case h_8 => unfold upd; rw [hab (n - 1) (by omega), hab (n - 2) (by omega), hab i (by omega)]
  case h_9 => exact hab i (by omega)
  case h_10 => unfold upd; rw [hab i (by omega)]; split; rw [hab (n - 1) (by omega)]; rfl
  case h_11 => exact hab i (by omega)
  case h_12 => unfold upd; split; rfl; exact hab i (by omega)
  case h_13 => exact hab i (by omega)
theorem fx_run_c (op arg : Nat → Int32) (h g : Int32) : ∀ (r p s : Nat) (a b : Nat → Int32) (n : Nat), (∀ i, i < n → a i = b i) → fx_run op arg h g r p s a n → fx_run op arg h g r p s b n := by
  intro r
  induction r with
  | zero =>
    intro p s a b n hab hr
    unfold fx_run at hr ⊢
    exact ⟨hr.1, by rw [← hab _ (by omega)]; exact hr.2⟩
  | succ r ih =>
    intro p s a b n hab hr
    cases s with
    | succ s =>
      unfold fx_run at hr ⊢
      exact ih _ _ _ _ _ hab hr
    | zero =>
      unfold fx_run at hr ⊢
      obtain ⟨h1, h2, h3, h4, h5, h6⟩ := hr
      have hc := fx_do_c (arg p) h hab h1
      have e := fx_do_n a b n (op p).toNatClampNeg (arg p) h
      have ht : ∀ {k}, (op p).toNatClampNeg = k → 1 ≤ fx_need k → b (n - 1) = a (n - 1) := fun {k} ek hk => (hab _ (by rw [ek] at h1; omega)).symm
      refine ⟨h1, h2, h3, fun e8 => ?_, fun hb => ?_, fun hb => ?_⟩
      · rw [ht e8 (by decide)]; exact h4 e8
      · rw [← e]
        exact ih _ _ _ _ _ hc (h5 ⟨hb.1, by rw [← ht hb.1 (by decide)]; exact hb.2⟩)
      · rw [← e]
        exact ih _ _ _ _ _ hc (h6 fun z => hb ⟨z.1, by rw [ht z.1 (by decide)]; exact z.2⟩)
theorem fx_run_skip (op arg : Nat → Int32) (h g : Int32) : ∀ (s r p : Nat) (a : Nat → Int32) (n : Nat), s ≤ r → (fx_run op arg h g r p s a n ↔ fx_run op arg h g (r - s) (p + s) 0 a n) := by
  intro s
  induction s with
  | zero => intro r p a n _; rw [Nat.sub_zero, Nat.add_zero]
  | succ s ih =>
    intro r p a n hs
    obtain ⟨r, rfl⟩ : ∃ q, r = q + 1 := ⟨r - 1, by omega⟩
    rw [fx_run, ih r (p + 1) a n (by omega), show r + 1 - (s + 1) = r - s by omega, show p + (s + 1) = p + 1 + s by omega]
theorem fx_run_past (op arg : Nat → Int32) (h g : Int32) : ∀ (r s p : Nat) (a : Nat → Int32) (n : Nat), r ≤ s → (fx_run op arg h g r p s a n ↔ (0 < n ∧ ¬ a (n - 1) = 0)) := by
  intro r
  induction r with
  | zero => intro s p a n _; rw [fx_run]
  | succ r ih =>
    intro s p a n hs
    obtain ⟨s, rfl⟩ : ∃ q, s = q + 1 := ⟨s - 1, by omega⟩
    rw [fx_run, ih s (p + 1) a n (by omega)]
/-- the coin with this script may be unlocked by A, B at height h when it is from height g -/
def fx_fits (tc op arg : Nat → Int32) (s : Nat) (A B h g : Int32) : Prop := fx_run op arg h g (tc s).toNatClampNeg (8 * s) 0 (upd (upd (fun _ => 0) 0 A) 1 B) 2
theorem fx_fits_of (tc op arg st : Nat → Int32) (s : Nat) (A B h g : Int32) : fx_run op arg h g (tc s).toNatClampNeg (8 * s) 0 (upd (upd st 0 A) 1 B) 2 ↔ fx_fits tc op arg s A B h g := by
  have e : ∀ i, i < 2 → upd (upd st 0 A) 1 B i = upd (upd (fun _ => 0) 0 A) 1 B i := by
    intro i hi
    unfold upd
    split
    · rfl
    · rw [if_pos (by omega), if_pos (by omega)]
  exact ⟨fx_run_c _ _ _ _ _ _ _ _ _ _ e, fx_run_c _ _ _ _ _ _ _ _ _ _ fun i hi => (e i hi).symm⟩
/-- the tokens of the scripts are as token lets them be -/
def fx_tok (tc op arg : Nat → Int32) : Prop := ∀ s, s < 8 → ∃ L, L ≤ 8 ∧ tc s = nI L ∧ ∀ i, i < L → ∃ k, k ≤ 12 ∧ op (8 * s + i) = nI k ∧ (k = 12 → ∃ v, v ≤ 8 ∧ arg (8 * s + i) = nI v)
end
section
/-! X: the script machine -/
theorem fx_e1 {n : Nat} (h : 1 ≤ n) : nI n - 1 = nI (n - 1) := pk_sub (b := 1) h
theorem fx_e2 {n : Nat} (h : 2 ≤ n) : nI n - 2 = nI (n - 2) := pk_sub (b := 2) h
section
variable {f_stackSize f_transactions f_putCount f_blocks f_tip f_poolCount f_queueCount : Int32} {a_tokenCount a_tokenOp a_tokenValue a_scriptInUse a_stack a_inputCount a_inputCoin a_inputA a_inputB a_outputCount a_outputAmount a_outputScript a_feeOf a_putRow a_parentOf a_heightOf a_chainWork a_blockState a_rewardAmount a_rewardScript a_blockSize a_blockTransaction a_laidBlock a_coinHeight a_coinSpent a_transactionHeight a_poolRow a_marked a_queue : Nat → Int32}
theorem xm_need {k : Nat} (hk : k ≤ 12) (post : Int32 → Prop) (h : post (nI (fx_need k))) : wpX_intsNeeded post (f_stackSize, f_transactions, f_putCount, f_blocks, f_tip, f_poolCount, f_queueCount, a_tokenCount, a_tokenOp, a_tokenValue, a_scriptInUse, a_stack, a_inputCount, a_inputCoin, a_inputA, a_inputB, a_outputCount, a_outputAmount, a_outputScript, a_feeOf, a_putRow, a_parentOf, a_heightOf, a_chainWork, a_blockState, a_rewardAmount, a_rewardScript, a_blockSize, a_blockTransaction, a_laidBlock, a_coinHeight, a_coinSpent, a_transactionHeight, a_poolRow, a_marked, a_queue) (nI k) := by
  rcases (by omega : k = 0 ∨ k = 1 ∨ k = 2 ∨ k = 3 ∨ k = 4 ∨ k = 5 ∨ k = 6 ∨ k = 7 ∨ k = 8 ∨ k = 9 ∨ k = 10 ∨ k = 11 ∨ k = 12) with rfl | rfl | rfl | rfl | rfl | rfl | rfl | rfl | rfl | rfl | rfl | rfl | rfl <;>
  · unfold wpX_intsNeeded
    dsimp only
    repeat (first | refine br_f (by decide) ?_ | refine br_t (by decide) ?_)
    exact h
theorem xm_more {k : Nat} (hk : k ≤ 12) (post : Int32 → Prop) (h : post (nI (fx_more k))) : wpX_intsAdded post (f_stackSize, f_transactions, f_putCount, f_blocks, f_tip, f_poolCount, f_queueCount, a_tokenCount, a_tokenOp, a_tokenValue, a_scriptInUse, a_stack, a_inputCount, a_inputCoin, a_inputA, a_inputB, a_outputCount, a_outputAmount, a_outputScript, a_feeOf, a_putRow, a_parentOf, a_heightOf, a_chainWork, a_blockState, a_rewardAmount, a_rewardScript, a_blockSize, a_blockTransaction, a_laidBlock, a_coinHeight, a_coinSpent, a_transactionHeight, a_poolRow, a_marked, a_queue) (nI k) := by
  rcases (by omega : k = 0 ∨ k = 1 ∨ k = 2 ∨ k = 3 ∨ k = 4 ∨ k = 5 ∨ k = 6 ∨ k = 7 ∨ k = 8 ∨ k = 9 ∨ k = 10 ∨ k = 11 ∨ k = 12) with rfl | rfl | rfl | rfl | rfl | rfl | rfl | rfl | rfl | rfl | rfl | rfl | rfl <;>
  · unfold wpX_intsAdded
    dsimp only
    repeat (first | refine br_f (by decide) ?_ | refine br_t (by decide) ?_)
    exact h
theorem xm_join86 {n : Nat} (hn : 2 ≤ n) (h6 : n ≤ 6) {x : Int32} {post : SX → Prop} (h : post (nI (n - 1), f_transactions, f_putCount, f_blocks, f_tip, f_poolCount, f_queueCount, a_tokenCount, a_tokenOp, a_tokenValue, a_scriptInUse, upd a_stack (n - 2) x, a_inputCount, a_inputCoin, a_inputA, a_inputB, a_outputCount, a_outputAmount, a_outputScript, a_feeOf, a_putRow, a_parentOf, a_heightOf, a_chainWork, a_blockState, a_rewardAmount, a_rewardScript, a_blockSize, a_blockTransaction, a_laidBlock, a_coinHeight, a_coinSpent, a_transactionHeight, a_poolRow, a_marked, a_queue)) : wX_joinTop_86 post x (nI n) f_transactions f_putCount f_blocks f_tip f_poolCount f_queueCount a_tokenCount a_tokenOp a_tokenValue a_scriptInUse a_stack a_inputCount a_inputCoin a_inputA a_inputB a_outputCount a_outputAmount a_outputScript a_feeOf a_putRow a_parentOf a_heightOf a_chainWork a_blockState a_rewardAmount a_rewardScript a_blockSize a_blockTransaction a_laidBlock a_coinHeight a_coinSpent a_transactionHeight a_poolRow a_marked a_queue := by
  have e1 : nI n - 1 = nI (n - 1) := fx_e1 (by omega)
  have e3 : nI (n - 1) - 1 = nI (n - 2) := (fx_e1 (by omega)).trans (congrArg nI (by omega))
  exact nm_r e1 ⟨pk_in (n - 2) 6 (by omega) e3, nm_r (by rw [pk_cl (n - 2) e3]) h⟩
theorem xm_join {k n : Nat} (hk : 4 ≤ k) (hk7 : k ≤ 7) (hn : 2 ≤ n) (h6 : n ≤ 6) (v w : Int32) {post : SX → Prop} (h : post (nI (fx_do a_stack n k v w).2, f_transactions, f_putCount, f_blocks, f_tip, f_poolCount, f_queueCount, a_tokenCount, a_tokenOp, a_tokenValue, a_scriptInUse, (fx_do a_stack n k v w).1, a_inputCount, a_inputCoin, a_inputA, a_inputB, a_outputCount, a_outputAmount, a_outputScript, a_feeOf, a_putRow, a_parentOf, a_heightOf, a_chainWork, a_blockState, a_rewardAmount, a_rewardScript, a_blockSize, a_blockTransaction, a_laidBlock, a_coinHeight, a_coinSpent, a_transactionHeight, a_poolRow, a_marked, a_queue)) : wpX_joinTop post (nI n, f_transactions, f_putCount, f_blocks, f_tip, f_poolCount, f_queueCount, a_tokenCount, a_tokenOp, a_tokenValue, a_scriptInUse, a_stack, a_inputCount, a_inputCoin, a_inputA, a_inputB, a_outputCount, a_outputAmount, a_outputScript, a_feeOf, a_putRow, a_parentOf, a_heightOf, a_chainWork, a_blockState, a_rewardAmount, a_rewardScript, a_blockSize, a_blockTransaction, a_laidBlock, a_coinHeight, a_coinSpent, a_transactionHeight, a_poolRow, a_marked, a_queue) (nI k) := by
  have e1 : nI n - 1 = nI (n - 1) := fx_e1 (by omega)
  have e2 : nI n - 2 = nI (n - 2) := fx_e2 (by omega)
  refine ⟨pk_in (n - 1) 6 (by omega) e1, nm_r (congrArg a_stack (pk_cl (n - 1) e1)) ⟨pk_in (n - 2) 6 (by omega) e2, nm_r (congrArg a_stack (pk_cl (n - 2) e2)) ?_⟩⟩
  rcases (by omega : k = 4 ∨ k = 5 ∨ k = 6 ∨ k = 7) with rfl | rfl | rfl | rfl
  · exact br_t (by decide) (nm_e (xm_join86 hn h6 h))
  · exact br_f (by decide) (br_t (by decide) (nm_e (xm_join86 hn h6 h)))
  · refine br_f (by decide) (br_f (by decide) (br_t (by decide) (br_c (fun z => ?_) (fun z => ?_))))
    · refine xm_join86 hn h6 ?_
      have e : (fx_do a_stack n 6 v w).1 = upd a_stack (n - 2) 1 := by show upd _ _ _ = _; rw [if_pos z]
      rw [e] at h; exact h
    · refine xm_join86 hn h6 ?_
      have e : (fx_do a_stack n 6 v w).1 = upd a_stack (n - 2) 0 := by show upd _ _ _ = _; rw [if_neg z]
      rw [e] at h; exact h
  · refine br_f (by decide) (br_f (by decide) (br_f (by decide) (br_c (fun z => ?_) (fun z => ?_))))
    · refine xm_join86 hn h6 ?_
      have e : (fx_do a_stack n 7 v w).1 = upd a_stack (n - 2) 0 := by show upd _ _ _ = _; rw [if_pos z]
      rw [e] at h; exact h
    · refine xm_join86 hn h6 ?_
      have e : (fx_do a_stack n 7 v w).1 = upd a_stack (n - 2) 1 := by show upd _ _ _ = _; rw [if_neg z]
      rw [e] at h; exact h
theorem xm_push {n : Nat} (hn : n < 6) {x : Int32} {post : SX → Prop} (h : post (nI (n + 1), f_transactions, f_putCount, f_blocks, f_tip, f_poolCount, f_queueCount, a_tokenCount, a_tokenOp, a_tokenValue, a_scriptInUse, upd a_stack n x, a_inputCount, a_inputCoin, a_inputA, a_inputB, a_outputCount, a_outputAmount, a_outputScript, a_feeOf, a_putRow, a_parentOf, a_heightOf, a_chainWork, a_blockState, a_rewardAmount, a_rewardScript, a_blockSize, a_blockTransaction, a_laidBlock, a_coinHeight, a_coinSpent, a_transactionHeight, a_poolRow, a_marked, a_queue)) : wX_changeTop_76 post x (nI n) f_transactions f_putCount f_blocks f_tip f_poolCount f_queueCount a_tokenCount a_tokenOp a_tokenValue a_scriptInUse a_stack a_inputCount a_inputCoin a_inputA a_inputB a_outputCount a_outputAmount a_outputScript a_feeOf a_putRow a_parentOf a_heightOf a_chainWork a_blockState a_rewardAmount a_rewardScript a_blockSize a_blockTransaction a_laidBlock a_coinHeight a_coinSpent a_transactionHeight a_poolRow a_marked a_queue :=
  ⟨pk_in n 6 hn, nm_r (by rw [pk_cl n]) (nm_r (nI_1 n) h)⟩
theorem xm_pop {n : Nat} (hn : 1 ≤ n) {post : SX → Prop} (h : post (nI (n - 1), f_transactions, f_putCount, f_blocks, f_tip, f_poolCount, f_queueCount, a_tokenCount, a_tokenOp, a_tokenValue, a_scriptInUse, a_stack, a_inputCount, a_inputCoin, a_inputA, a_inputB, a_outputCount, a_outputAmount, a_outputScript, a_feeOf, a_putRow, a_parentOf, a_heightOf, a_chainWork, a_blockState, a_rewardAmount, a_rewardScript, a_blockSize, a_blockTransaction, a_laidBlock, a_coinHeight, a_coinSpent, a_transactionHeight, a_poolRow, a_marked, a_queue)) : wX_changeTop_211 post (nI n) f_transactions f_putCount f_blocks f_tip f_poolCount f_queueCount a_tokenCount a_tokenOp a_tokenValue a_scriptInUse a_stack a_inputCount a_inputCoin a_inputA a_inputB a_outputCount a_outputAmount a_outputScript a_feeOf a_putRow a_parentOf a_heightOf a_chainWork a_blockState a_rewardAmount a_rewardScript a_blockSize a_blockTransaction a_laidBlock a_coinHeight a_coinSpent a_transactionHeight a_poolRow a_marked a_queue :=
  nm_r (fx_e1 hn) h
theorem xm_change {k n : Nat} (hk : k < 4 ∨ 7 < k) (hk12 : k ≤ 12) (hn : fx_need k ≤ n) (h6 : n + fx_more k ≤ 6) (v w z : Int32) (hz : (k = 11 → z = w) ∧ (k ≠ 11 → z = v)) {post : SX → Prop} (h : post (nI (fx_do a_stack n k v w).2, f_transactions, f_putCount, f_blocks, f_tip, f_poolCount, f_queueCount, a_tokenCount, a_tokenOp, a_tokenValue, a_scriptInUse, (fx_do a_stack n k v w).1, a_inputCount, a_inputCoin, a_inputA, a_inputB, a_outputCount, a_outputAmount, a_outputScript, a_feeOf, a_putRow, a_parentOf, a_heightOf, a_chainWork, a_blockState, a_rewardAmount, a_rewardScript, a_blockSize, a_blockTransaction, a_laidBlock, a_coinHeight, a_coinSpent, a_transactionHeight, a_poolRow, a_marked, a_queue)) : wpX_changeTop post (nI n, f_transactions, f_putCount, f_blocks, f_tip, f_poolCount, f_queueCount, a_tokenCount, a_tokenOp, a_tokenValue, a_scriptInUse, a_stack, a_inputCount, a_inputCoin, a_inputA, a_inputB, a_outputCount, a_outputAmount, a_outputScript, a_feeOf, a_putRow, a_parentOf, a_heightOf, a_chainWork, a_blockState, a_rewardAmount, a_rewardScript, a_blockSize, a_blockTransaction, a_laidBlock, a_coinHeight, a_coinSpent, a_transactionHeight, a_poolRow, a_marked, a_queue) (nI k) z := by
  unfold wpX_changeTop
  dsimp only
  refine nm_e ?_
  rcases (by omega : k = 0 ∨ k = 1 ∨ k = 2 ∨ k = 3 ∨ k = 8 ∨ k = 9 ∨ k = 10 ∨ k = 11 ∨ k = 12) with rfl | rfl | rfl | rfl | rfl | rfl | rfl | rfl | rfl
  · obtain rfl := hz.2 (by decide)
    repeat (first | refine br_f (by decide) ?_ | refine br_t (by decide) ?_)
    exact xm_push (by have : fx_more 0 = 1 := rfl; omega) h
  · have e1 : nI n - 1 = nI (n - 1) := fx_e1 (by have : fx_need 1 = 1 := rfl; omega)
    have h5 : n < 6 := by have : fx_more 1 = 1 := rfl; omega
    have h0 : 1 ≤ n := by have : fx_need 1 = 1 := rfl; omega
    repeat (first | refine br_f (by decide) ?_ | refine br_t (by decide) ?_)
    exact ⟨pk_in (n - 1) 6 (by omega) e1, pk_in n 6 h5, nm_r (by rw [pk_cl n, pk_cl (n - 1) e1] <;> rfl) (nm_r (nI_1 n) h)⟩
  · repeat (first | refine br_f (by decide) ?_ | refine br_t (by decide) ?_)
    exact xm_pop (by have : fx_need 2 = 1 := rfl; omega) h
  · have h0 : 2 ≤ n := by have : fx_need 3 = 2 := rfl; omega
    have h5 : n ≤ 6 := by have : fx_more 3 = 0 := rfl; omega
    have e1 : nI n - 1 = nI (n - 1) := fx_e1 (by omega)
    have e2 : nI n - 1 - 1 = nI (n - 2) := by rw [e1, fx_e1 (by omega)]; exact congrArg nI (by omega)
    repeat (first | refine br_f (by decide) ?_ | refine br_t (by decide) ?_)
    refine ⟨pk_in (n - 1) 6 (by omega) e1, nm_r (congrArg a_stack (pk_cl (n - 1) e1)) ⟨pk_in (n - 2) 6 (by omega) e2, pk_in (n - 1) 6 (by omega) e1, nm_r (by rw [pk_cl (n - 1) e1, pk_cl (n - 2) e2]) ⟨pk_in (n - 2) 6 (by omega) e2, nm_r (by rw [pk_cl (n - 2) e2] <;> rfl) h⟩⟩⟩
  · repeat (first | refine br_f (by decide) ?_ | refine br_t (by decide) ?_)
    exact xm_pop (by have : fx_need 8 = 1 := rfl; omega) h
  · have h0 : 1 ≤ n := by have : fx_need 9 = 1 := rfl; omega
    have h5 : n ≤ 6 := by have : fx_more 9 = 0 := rfl; omega
    have e1 : nI n - 1 = nI (n - 1) := fx_e1 (by omega)
    have ec := pk_cl (n - 1) e1
    repeat (first | refine br_f (by decide) ?_ | refine br_t (by decide) ?_)
    refine ⟨pk_in (n - 1) 6 (by omega) e1, by decide, nm_r (by rw [ec]) (br_c (fun z => ⟨pk_in (n - 1) 6 (by omega) e1, nm_r (by rw [ec]) ?_⟩) (fun z => ⟨pk_in (n - 1) 6 (by omega) e1, nm_r (by rw [ec]) ?_⟩))⟩
    · have e : (fx_do a_stack n 9 v w).1 = upd a_stack (n - 1) (fx_hash (a_stack (n - 1))) := rfl
      rw [e, fx_hash, if_pos z] at h; exact h
    · have e : (fx_do a_stack n 9 v w).1 = upd a_stack (n - 1) (fx_hash (a_stack (n - 1))) := rfl
      rw [e, fx_hash, if_neg z] at h; exact h
  · repeat (first | refine br_f (by decide) ?_ | refine br_t (by decide) ?_)
    exact h
  · obtain rfl := hz.1 rfl
    repeat (first | refine br_f (by decide) ?_ | refine br_t (by decide) ?_)
    exact xm_push (by have : fx_more 11 = 1 := rfl; omega) h
  · repeat (first | refine br_f (by decide) ?_ | refine br_t (by decide) ?_)
    exact xm_pop (by have : fx_need 12 = 1 := rfl; omega) h
theorem xm_fits177 {k n : Nat} (hk : k ≤ 12) (hn : fx_need k ≤ n) (h6 : n + fx_more k ≤ 6) (v w g x1 nx i : Int32) {post : Int32 → SX → Prop} {J : Int32 → Int32 → Int32 → Int32 → Int32 → Int32 → Int32 → Int32 → Int32 → (Nat → Int32) → (Nat → Int32) → (Nat → Int32) → (Nat → Int32) → (Nat → Int32) → (Nat → Int32) → (Nat → Int32) → (Nat → Int32) → (Nat → Int32) → (Nat → Int32) → (Nat → Int32) → (Nat → Int32) → (Nat → Int32) → (Nat → Int32) → (Nat → Int32) → (Nat → Int32) → (Nat → Int32) → (Nat → Int32) → (Nat → Int32) → (Nat → Int32) → (Nat → Int32) → (Nat → Int32) → (Nat → Int32) → (Nat → Int32) → (Nat → Int32) → (Nat → Int32) → (Nat → Int32) → (Nat → Int32) → (Nat → Int32) → Prop} (h : J nx (i + 1) (nI (fx_do a_stack n k v w).2) f_transactions f_putCount f_blocks f_tip f_poolCount f_queueCount a_tokenCount a_tokenOp a_tokenValue a_scriptInUse ((fx_do a_stack n k v w).1) a_inputCount a_inputCoin a_inputA a_inputB a_outputCount a_outputAmount a_outputScript a_feeOf a_putRow a_parentOf a_heightOf a_chainWork a_blockState a_rewardAmount a_rewardScript a_blockSize a_blockTransaction a_laidBlock a_coinHeight a_coinSpent a_transactionHeight a_poolRow a_marked a_queue) : wX_fits_177 post J x1 w g nx i (nI k) v (nI n) f_transactions f_putCount f_blocks f_tip f_poolCount f_queueCount a_tokenCount a_tokenOp a_tokenValue a_scriptInUse a_stack a_inputCount a_inputCoin a_inputA a_inputB a_outputCount a_outputAmount a_outputScript a_feeOf a_putRow a_parentOf a_heightOf a_chainWork a_blockState a_rewardAmount a_rewardScript a_blockSize a_blockTransaction a_laidBlock a_coinHeight a_coinSpent a_transactionHeight a_poolRow a_marked a_queue := by
  by_cases h4 : k < 4
  · refine br_t (nI_lt (b := 4) h4 (by decide)) (pk_eq k 11 (fun e => by omega) (fun e => ?_))
    exact xm_change (Or.inl h4) hk hn h6 v w _ ⟨fun e => by omega, fun _ => rfl⟩ (nm_e h)
  · by_cases h7 : 7 < k
    · refine br_f (nI_nlt (b := 4) (Nat.le_of_not_lt h4) (by omega)) (br_t (nI_lt (a := 7) h7 (by omega)) (pk_eq k 11 (fun e => ?_) (fun e => ?_)))
      · exact xm_change (Or.inr h7) hk hn h6 v w _ ⟨fun _ => rfl, fun e' => (e' e).elim⟩ (nm_e h)
      · exact xm_change (Or.inr h7) hk hn h6 v w _ ⟨fun e' => (e e').elim, fun _ => rfl⟩ (nm_e h)
    · refine br_f (nI_nlt (b := 4) (Nat.le_of_not_lt h4) (by omega)) (br_f (nI_nlt (a := 7) (Nat.le_of_not_lt h7) (by decide)) ?_)
      have hn2 : fx_need k = 2 := by rcases (by omega : k = 4 ∨ k = 5 ∨ k = 6 ∨ k = 7) with rfl | rfl | rfl | rfl <;> rfl
      exact xm_join (by omega) (by omega) (by omega) (by omega) v w (nm_e h)
theorem xm_fits124 {k n : Nat} (hk : k ≤ 12) (hn : fx_need k ≤ n) (h6 : n + fx_more k ≤ 6) (v w g x1 nx i : Int32) {post : Int32 → SX → Prop} {J : Int32 → Int32 → Int32 → Int32 → Int32 → Int32 → Int32 → Int32 → Int32 → (Nat → Int32) → (Nat → Int32) → (Nat → Int32) → (Nat → Int32) → (Nat → Int32) → (Nat → Int32) → (Nat → Int32) → (Nat → Int32) → (Nat → Int32) → (Nat → Int32) → (Nat → Int32) → (Nat → Int32) → (Nat → Int32) → (Nat → Int32) → (Nat → Int32) → (Nat → Int32) → (Nat → Int32) → (Nat → Int32) → (Nat → Int32) → (Nat → Int32) → (Nat → Int32) → (Nat → Int32) → (Nat → Int32) → (Nat → Int32) → (Nat → Int32) → (Nat → Int32) → (Nat → Int32) → (Nat → Int32) → (Nat → Int32) → Prop}
    (h8 : k = 8 → a_stack (n - 1) = 0 → post 0 (nI n, f_transactions, f_putCount, f_blocks, f_tip, f_poolCount, f_queueCount, a_tokenCount, a_tokenOp, a_tokenValue, a_scriptInUse, a_stack, a_inputCount, a_inputCoin, a_inputA, a_inputB, a_outputCount, a_outputAmount, a_outputScript, a_feeOf, a_putRow, a_parentOf, a_heightOf, a_chainWork, a_blockState, a_rewardAmount, a_rewardScript, a_blockSize, a_blockTransaction, a_laidBlock, a_coinHeight, a_coinSpent, a_transactionHeight, a_poolRow, a_marked, a_queue))
    (h1 : k = 12 → a_stack (n - 1) = 0 → J ((i + 1) + v) (i + 1) (nI (fx_do a_stack n k v w).2) f_transactions f_putCount f_blocks f_tip f_poolCount f_queueCount a_tokenCount a_tokenOp a_tokenValue a_scriptInUse ((fx_do a_stack n k v w).1) a_inputCount a_inputCoin a_inputA a_inputB a_outputCount a_outputAmount a_outputScript a_feeOf a_putRow a_parentOf a_heightOf a_chainWork a_blockState a_rewardAmount a_rewardScript a_blockSize a_blockTransaction a_laidBlock a_coinHeight a_coinSpent a_transactionHeight a_poolRow a_marked a_queue)
    (h2 : ¬ (k = 12 ∧ a_stack (n - 1) = 0) → ¬ (k = 8 ∧ a_stack (n - 1) = 0) → J nx (i + 1) (nI (fx_do a_stack n k v w).2) f_transactions f_putCount f_blocks f_tip f_poolCount f_queueCount a_tokenCount a_tokenOp a_tokenValue a_scriptInUse ((fx_do a_stack n k v w).1) a_inputCount a_inputCoin a_inputA a_inputB a_outputCount a_outputAmount a_outputScript a_feeOf a_putRow a_parentOf a_heightOf a_chainWork a_blockState a_rewardAmount a_rewardScript a_blockSize a_blockTransaction a_laidBlock a_coinHeight a_coinSpent a_transactionHeight a_poolRow a_marked a_queue) :
    wX_fits_124 post J x1 w g nx i (nI k) v (nI n) f_transactions f_putCount f_blocks f_tip f_poolCount f_queueCount a_tokenCount a_tokenOp a_tokenValue a_scriptInUse a_stack a_inputCount a_inputCoin a_inputA a_inputB a_outputCount a_outputAmount a_outputScript a_feeOf a_putRow a_parentOf a_heightOf a_chainWork a_blockState a_rewardAmount a_rewardScript a_blockSize a_blockTransaction a_laidBlock a_coinHeight a_coinSpent a_transactionHeight a_poolRow a_marked a_queue := by
  refine pk_eq k 8 (fun e => ?_) (fun e => ?_)
  · subst e
    have hn1 : 1 ≤ n := hn
    have h5 : n ≤ 6 := h6
    have e1 : nI n - 1 = nI (n - 1) := fx_e1 (by omega)
    have ec := congrArg a_stack (pk_cl (n - 1) e1)
    refine ⟨pk_in (n - 1) 6 (by omega) e1, br_c (fun z => h8 rfl (ec ▸ z)) (fun z => br_f (by decide) (xm_fits177 hk hn h6 v w g x1 nx i (h2 (fun q => by omega) (fun q => z (ec.trans q.2)))))⟩
  · refine pk_eq k 12 (fun e => ?_) (fun e2 => ?_)
    · subst e
      have hn1 : 1 ≤ n := hn
      have h5 : n ≤ 6 := h6
      have e1 : nI n - 1 = nI (n - 1) := fx_e1 (by omega)
      have ec := congrArg a_stack (pk_cl (n - 1) e1)
      refine ⟨pk_in (n - 1) 6 (by omega) e1, br_c (fun z => nm_e (xm_fits177 hk hn h6 v w g x1 _ i (h1 rfl (ec ▸ z)))) (fun z => xm_fits177 hk hn h6 v w g x1 nx i (h2 (fun q => z (ec.trans q.2)) (fun q => by omega)))⟩
    · exact xm_fits177 hk hn h6 v w g x1 nx i (h2 (fun q => e2 q.1) (fun q => e q.1))
theorem xm_fits25 {s L : Nat} {h g : Int32} (hs : s < 8) (hL : L ≤ 8) (eL : a_tokenCount s = nI L) (hop : ∀ i, i < L → ∃ k, k ≤ 12 ∧ a_tokenOp (8 * s + i) = nI k ∧ (k = 12 → ∃ v, v ≤ 8 ∧ a_tokenValue (8 * s + i) = nI v)) {post : Int32 → SX → Prop} : ∀ (r i nx n fuel : Nat) (a : Nat → Int32), i + r = L → r < fuel → nx ≤ 20 → n ≤ 6 →
    (fx_run a_tokenOp a_tokenValue h g r (8 * s + i) (nx - i) a n → ∀ ss st, post 1 (ss, f_transactions, f_putCount, f_blocks, f_tip, f_poolCount, f_queueCount, a_tokenCount, a_tokenOp, a_tokenValue, a_scriptInUse, st, a_inputCount, a_inputCoin, a_inputA, a_inputB, a_outputCount, a_outputAmount, a_outputScript, a_feeOf, a_putRow, a_parentOf, a_heightOf, a_chainWork, a_blockState, a_rewardAmount, a_rewardScript, a_blockSize, a_blockTransaction, a_laidBlock, a_coinHeight, a_coinSpent, a_transactionHeight, a_poolRow, a_marked, a_queue)) →
    (¬ fx_run a_tokenOp a_tokenValue h g r (8 * s + i) (nx - i) a n → ∀ ss st, post 0 (ss, f_transactions, f_putCount, f_blocks, f_tip, f_poolCount, f_queueCount, a_tokenCount, a_tokenOp, a_tokenValue, a_scriptInUse, st, a_inputCount, a_inputCoin, a_inputA, a_inputB, a_outputCount, a_outputAmount, a_outputScript, a_feeOf, a_putRow, a_parentOf, a_heightOf, a_chainWork, a_blockState, a_rewardAmount, a_rewardScript, a_blockSize, a_blockTransaction, a_laidBlock, a_coinHeight, a_coinSpent, a_transactionHeight, a_poolRow, a_marked, a_queue)) →
    wX_fits_25 post (nI s) h g fuel (nI nx) (nI i) (nI n) f_transactions f_putCount f_blocks f_tip f_poolCount f_queueCount a_tokenCount a_tokenOp a_tokenValue a_scriptInUse a a_inputCount a_inputCoin a_inputA a_inputB a_outputCount a_outputAmount a_outputScript a_feeOf a_putRow a_parentOf a_heightOf a_chainWork a_blockState a_rewardAmount a_rewardScript a_blockSize a_blockTransaction a_laidBlock a_coinHeight a_coinSpent a_transactionHeight a_poolRow a_marked a_queue := by
  have ec : a_tokenCount (nI s).toNatClampNeg = nI L := by rw [nI_clamp (by omega)]; exact eL
  intro r
  induction r with
  | zero =>
    intro i nx n fuel a hi hf hx h6 H1 H0
    obtain ⟨fuel, rfl⟩ : ∃ q, fuel = q + 1 := ⟨fuel - 1, by omega⟩
    rw [fx_run] at H1 H0
    refine ⟨vp_in_nI hs (by omega), pk_le L i (fun _ => pk_le n 0 (fun hn => H0 (fun z => by omega) _ _) (fun hn => ?_)) (fun z => by omega) ec⟩
    have e1 : nI n - 1 = nI (n - 1) := fx_e1 (by omega)
    have ea := congrArg a (pk_cl (n - 1) e1)
    exact ⟨pk_in (n - 1) 6 (by omega) e1, br_c (fun z => H0 (fun q => q.2 (ea ▸ z)) _ _) (fun z => H1 ⟨hn, fun q => z (ea.trans q)⟩ _ _)⟩
  | succ r ih =>
    intro i nx n fuel a hi hf hx h6 H1 H0
    obtain ⟨fuel, rfl⟩ : ∃ q, fuel = q + 1 := ⟨fuel - 1, by omega⟩
    refine ⟨vp_in_nI hs (by omega), pk_le L i (fun z => by omega) (fun _ => pk_le nx i (fun hnx => ?_) (fun hnx => ?_)) ec⟩
    · have e0 : nx - i = 0 := by omega
      rw [e0, fx_run] at H1 H0
      obtain ⟨k, hk, ek, hv⟩ := hop i (by omega)
      have e8 : nI s * 8 + nI i = nI (8 * s + i) := by rw [show (8 : Int32) = nI 8 from rfl, pk_mul, nI_add, Nat.mul_comm]
      have e8c := pk_cl (8 * s + i) e8
      have ekc : (a_tokenOp (8 * s + i)).toNatClampNeg = k := by rw [ek]; exact nI_clamp (by omega)
      rw [ekc] at H1 H0
      refine ⟨pk_in (8 * s + i) 64 (by omega) e8, nm_r ((congrArg a_tokenOp e8c).trans ek) ⟨pk_in (8 * s + i) 64 (by omega) e8, nm_r (congrArg a_tokenValue e8c) ?_⟩⟩
      have hneed : fx_need k ≤ 2 := by unfold fx_need; split <;> omega
      have hmore : fx_more k ≤ 1 := by unfold fx_more; split <;> omega
      refine xm_need hk _ (pk_lt n (fx_need k) (fun hlt => H0 (fun q => by have := q.1; omega) _ _) (fun hge => xm_more hk _ ?_))
      refine pk_le (n + fx_more k) 6 (fun hm => ?_) (fun hm => H0 (fun q => by have := q.2.1; omega) _ _) (nI_add _ _)
      have main : ((k = 10 → a_tokenValue (8 * s + i) ≤ h - g)) → wX_fits_124 post (wX_fits_25 post (nI s) h g fuel) (nI s) h g (nI nx) (nI i) (nI k) (a_tokenValue (8 * s + i)) (nI n) f_transactions f_putCount f_blocks f_tip f_poolCount f_queueCount a_tokenCount a_tokenOp a_tokenValue a_scriptInUse a a_inputCount a_inputCoin a_inputA a_inputB a_outputCount a_outputAmount a_outputScript a_feeOf a_putRow a_parentOf a_heightOf a_chainWork a_blockState a_rewardAmount a_rewardScript a_blockSize a_blockTransaction a_laidBlock a_coinHeight a_coinSpent a_transactionHeight a_poolRow a_marked a_queue := by
        intro h10
        have hdn : (fx_do a n k (a_tokenValue (8 * s + i)) h).2 ≤ 6 := by
          unfold fx_do; unfold fx_more at hm; split <;> dsimp only at hm ⊢ <;> omega
        refine xm_fits124 hk hge hm _ _ _ _ _ _ (fun e z => H0 (fun q => q.2.2.2.1 e z) _ _) (fun e z => ?_) (fun q1 q2 => ?_)
        · obtain ⟨v, hv8, ev⟩ := hv e
          have evc : (a_tokenValue (8 * s + i)).toNatClampNeg = v := by rw [ev]; exact nI_clamp (by omega)
          rw [evc] at H1 H0
          have en : nI i + 1 + a_tokenValue (8 * s + i) = nI (i + 1 + v) := by rw [ev, nI_1, nI_add]
          rw [en, nI_1 i]
          refine ih (i + 1) (i + 1 + v) _ fuel _ (by omega) (by omega) (by omega) hdn (fun hr => H1 ⟨hge, hm, h10, fun e8 => by omega, fun _ => ?_, fun q => (q ⟨e, z⟩).elim⟩) (fun hr => H0 fun q => hr ?_)
          · have : i + 1 + v - (i + 1) = v := by omega
            rw [this] at hr; exact hr
          · have : i + 1 + v - (i + 1) = v := by omega
            rw [this]; exact q.2.2.2.2.1 ⟨e, z⟩
        · rw [nI_1 i]
          have e0' : nx - (i + 1) = 0 := by omega
          refine ih (i + 1) nx _ fuel _ (by omega) (by omega) (by omega) hdn (fun hr => H1 ⟨hge, hm, h10, fun e8 z => q2 ⟨e8, z⟩, fun q => (q1 q).elim, fun _ => ?_⟩) (fun hr => H0 fun q => hr ?_)
          · rw [e0'] at hr; exact hr
          · rw [e0']; exact q.2.2.2.2.2 q1
      exact pk_eq k 10 (fun e => br_c (fun z => main fun _ => z) (fun z => H0 (fun q => z (q.2.2.1 e)) _ _)) (fun e => main fun q => (e q).elim)
    · obtain ⟨d, hd⟩ : ∃ d, nx - i = d + 1 := ⟨nx - i - 1, by omega⟩
      rw [hd, fx_run] at H1 H0
      have ed : nx - (i + 1) = d := by omega
      refine nm_r (nI_1 i) (ih (i + 1) nx n fuel a (by omega) (by omega) hx h6 ?_ ?_)
      · rw [ed]; exact H1
      · rw [ed]; exact H0
theorem xm_fits {s : Nat} {A B h g : Int32} (hs : s < 8) (ht : fx_tok a_tokenCount a_tokenOp a_tokenValue) {post : Int32 → SX → Prop}
    (H1 : fx_fits a_tokenCount a_tokenOp a_tokenValue s A B h g → ∀ ss st, post 1 (ss, f_transactions, f_putCount, f_blocks, f_tip, f_poolCount, f_queueCount, a_tokenCount, a_tokenOp, a_tokenValue, a_scriptInUse, st, a_inputCount, a_inputCoin, a_inputA, a_inputB, a_outputCount, a_outputAmount, a_outputScript, a_feeOf, a_putRow, a_parentOf, a_heightOf, a_chainWork, a_blockState, a_rewardAmount, a_rewardScript, a_blockSize, a_blockTransaction, a_laidBlock, a_coinHeight, a_coinSpent, a_transactionHeight, a_poolRow, a_marked, a_queue))
    (H0 : ¬ fx_fits a_tokenCount a_tokenOp a_tokenValue s A B h g → ∀ ss st, post 0 (ss, f_transactions, f_putCount, f_blocks, f_tip, f_poolCount, f_queueCount, a_tokenCount, a_tokenOp, a_tokenValue, a_scriptInUse, st, a_inputCount, a_inputCoin, a_inputA, a_inputB, a_outputCount, a_outputAmount, a_outputScript, a_feeOf, a_putRow, a_parentOf, a_heightOf, a_chainWork, a_blockState, a_rewardAmount, a_rewardScript, a_blockSize, a_blockTransaction, a_laidBlock, a_coinHeight, a_coinSpent, a_transactionHeight, a_poolRow, a_marked, a_queue)) :
    wpX_fits post (f_stackSize, f_transactions, f_putCount, f_blocks, f_tip, f_poolCount, f_queueCount, a_tokenCount, a_tokenOp, a_tokenValue, a_scriptInUse, a_stack, a_inputCount, a_inputCoin, a_inputA, a_inputB, a_outputCount, a_outputAmount, a_outputScript, a_feeOf, a_putRow, a_parentOf, a_heightOf, a_chainWork, a_blockState, a_rewardAmount, a_rewardScript, a_blockSize, a_blockTransaction, a_laidBlock, a_coinHeight, a_coinSpent, a_transactionHeight, a_poolRow, a_marked, a_queue) (nI s) A B h g := by
  obtain ⟨L, hL, eL, hop⟩ := ht s hs
  have eLc : (a_tokenCount s).toNatClampNeg = L := by rw [eL]; exact nI_clamp (by omega)
  rw [← fx_fits_of _ _ _ a_stack, eLc] at H1 H0
  exact nm_e (nm_e ⟨L + 1, xm_fits25 hs hL eL hop L 0 0 2 (L + 1) _ (by omega) (by omega) (by omega) (by omega) H1 H0⟩)
end
end
section
/-! Y: the script machine -/
theorem fx_run_jump (op arg : Nat → Int32) (h g : Int32) (s r p : Nat) (a : Nat → Int32) (n : Nat) : fx_run op arg h g r p s a n ↔ fx_run op arg h g (r - s) (p + s) 0 a n := by
  by_cases hs : s ≤ r
  · exact fx_run_skip op arg h g s r p a n hs
  · rw [fx_run_past op arg h g r s p a n (by omega), show r - s = 0 by omega, fx_run]
theorem fx_ar1 {L i r v : Nat} (h : L - i = r + 1) : r - v = L - (i + v + 1) := by omega
theorem fx_ar2 {L i r : Nat} (h : L - i = r + 1) : r = L - (i + 1) := by omega
theorem fx_hash_y (x : Int32) : fx_hash x = if 0 ≤ (31 * x.toInt64 + 7) - (31 * x.toInt64 + 7) / 1009 * 1009 then ((31 * x.toInt64 + 7) - (31 * x.toInt64 + 7) / 1009 * 1009).toInt32 else (((31 * x.toInt64 + 7) - (31 * x.toInt64 + 7) / 1009 * 1009) + 1009).toInt32 := by
  unfold fx_hash; rw [Int64.mul_comm x.toInt64 31]
section
variable {g_made g_blocks g_arrivals g_tip g_pooled g_chainLength : Int32} {b_op b_arg b_length b_ins b_inCoin b_inA b_inB b_outs b_amount b_lock b_parent b_work b_rewardLock b_height b_many b_holds b_delivered b_arrived b_pool b_chain b_from b_worth b_within b_spent b_stack b_again b_chosen gfe grw : Nat → Int32}
theorem ym_d145 {k n : Nat} (hk : 4 ≤ k) (hk7 : k ≤ 7) (hn : 2 ≤ n) (h6 : n ≤ 6) (v w x y : Int32) (hx : x = b_stack (n - 1)) (hy : y = b_stack (n - 2)) {post : Int32 → SY → Prop} (h : post (nI (fx_do b_stack n k v w).2) (g_made, g_blocks, g_arrivals, g_tip, g_pooled, g_chainLength, b_op, b_arg, b_length, b_ins, b_inCoin, b_inA, b_inB, b_outs, b_amount, b_lock, b_parent, b_work, b_rewardLock, b_height, b_many, b_holds, b_delivered, b_arrived, b_pool, b_chain, b_from, b_worth, b_within, b_spent, (fx_do b_stack n k v w).1, b_again, b_chosen)) : wY_done_145 post (nI k) (nI n) x y g_made g_blocks g_arrivals g_tip g_pooled g_chainLength b_op b_arg b_length b_ins b_inCoin b_inA b_inB b_outs b_amount b_lock b_parent b_work b_rewardLock b_height b_many b_holds b_delivered b_arrived b_pool b_chain b_from b_worth b_within b_spent b_stack b_again b_chosen := by
  have e1 : nI n - 1 = nI (n - 1) := fx_e1 (by omega)
  have e2 : nI n - 2 = nI (n - 2) := fx_e2 (by omega)
  have ec := pk_cl (n - 2) e2
  have hi := pk_in (n - 2) 6 (by omega) e2
  subst hx hy
  unfold wY_done_145
  rw [e1]
  rcases (by omega : k = 4 ∨ k = 5 ∨ k = 6 ∨ k = 7) with rfl | rfl | rfl | rfl
  · exact br_t (by decide) ⟨hi, nm_r (by rw [ec] <;> rfl) h⟩
  · exact br_f (by decide) (br_t (by decide) ⟨hi, nm_r (by rw [ec] <;> rfl) h⟩)
  · refine br_f (by decide) (br_f (by decide) (br_t (by decide) (br_c (fun z => ⟨hi, nm_r (by rw [ec] <;> rfl) ?_⟩) (fun z => ⟨hi, nm_r (by rw [ec] <;> rfl) ?_⟩))))
    · have e : (fx_do b_stack n 6 v w).1 = upd b_stack (n - 2) 1 := by show upd _ _ _ = _; rw [if_pos z]
      rw [e] at h; exact h
    · have e : (fx_do b_stack n 6 v w).1 = upd b_stack (n - 2) 0 := by show upd _ _ _ = _; rw [if_neg z]
      rw [e] at h; exact h
  · refine br_f (by decide) (br_f (by decide) (br_f (by decide) (br_c (fun z => ⟨hi, nm_r (by rw [ec] <;> rfl) ?_⟩) (fun z => ⟨hi, nm_r (by rw [ec] <;> rfl) ?_⟩))))
    · have e : (fx_do b_stack n 7 v w).1 = upd b_stack (n - 2) 0 := by show upd _ _ _ = _; rw [if_pos z]
      rw [e] at h; exact h
    · have e : (fx_do b_stack n 7 v w).1 = upd b_stack (n - 2) 1 := by show upd _ _ _ = _; rw [if_neg z]
      rw [e] at h; exact h
theorem ym_d35 {k n : Nat} (hk : k ≤ 12) (hn : fx_need k ≤ n) (h6 : n + fx_more k ≤ 6) (v w x y : Int32) (hx : 1 ≤ n → x = b_stack (n - 1)) (hy : 2 ≤ n → y = b_stack (n - 2)) {post : Int32 → SY → Prop} (h : post (nI (fx_do b_stack n k v w).2) (g_made, g_blocks, g_arrivals, g_tip, g_pooled, g_chainLength, b_op, b_arg, b_length, b_ins, b_inCoin, b_inA, b_inB, b_outs, b_amount, b_lock, b_parent, b_work, b_rewardLock, b_height, b_many, b_holds, b_delivered, b_arrived, b_pool, b_chain, b_from, b_worth, b_within, b_spent, (fx_do b_stack n k v w).1, b_again, b_chosen)) : wY_done_35 post (nI k) v (nI n) w x y g_made g_blocks g_arrivals g_tip g_pooled g_chainLength b_op b_arg b_length b_ins b_inCoin b_inA b_inB b_outs b_amount b_lock b_parent b_work b_rewardLock b_height b_many b_holds b_delivered b_arrived b_pool b_chain b_from b_worth b_within b_spent b_stack b_again b_chosen := by
  rcases (by omega : k = 0 ∨ k = 1 ∨ k = 2 ∨ k = 3 ∨ k = 4 ∨ k = 5 ∨ k = 6 ∨ k = 7 ∨ k = 8 ∨ k = 9 ∨ k = 10 ∨ k = 11 ∨ k = 12) with rfl | rfl | rfl | rfl | rfl | rfl | rfl | rfl | rfl | rfl | rfl | rfl | rfl
  · have h5 : n < 6 := by have : fx_more 0 = 1 := rfl; omega
    unfold wY_done_35
    repeat (first | refine br_f (by decide) ?_ | refine br_t (by decide) ?_)
    rw [nI_1 n]
    exact ⟨pk_in n 6 h5, nm_r (by rw [pk_cl n] <;> rfl) h⟩
  · have h5 : n < 6 := by have : fx_more 1 = 1 := rfl; omega
    have h1 : 1 ≤ n := hn
    obtain rfl := hx h1
    unfold wY_done_35
    repeat (first | refine br_f (by decide) ?_ | refine br_t (by decide) ?_)
    rw [nI_1 n]
    exact ⟨pk_in n 6 h5, nm_r (by rw [pk_cl n] <;> rfl) h⟩
  · have h1 : 1 ≤ n := hn
    unfold wY_done_35
    repeat (first | refine br_f (by decide) ?_ | refine br_t (by decide) ?_)
    rw [fx_e1 h1]; exact h
  · have h2 : 2 ≤ n := hn
    have h5 : n ≤ 6 := h6
    obtain rfl := hx (by omega)
    obtain rfl := hy h2
    unfold wY_done_35
    repeat (first | refine br_f (by decide) ?_ | refine br_t (by decide) ?_)
    rw [fx_e1 (by omega), fx_e2 h2]
    exact ⟨pk_in (n - 1) 6 (by omega), nm_r (by rw [pk_cl (n - 1)] <;> rfl) ⟨pk_in (n - 2) 6 (by omega), nm_r (by rw [pk_cl (n - 2)] <;> rfl) h⟩⟩
  · have h2 : 2 ≤ n := hn
    unfold wY_done_35
    iterate 6 (refine br_f (by decide) ?_)
    exact br_t (by decide) (ym_d145 (by omega) (by omega) h2 h6 v w x y (hx (by omega)) (hy h2) h)
  · have h2 : 2 ≤ n := hn
    unfold wY_done_35
    iterate 7 (refine br_f (by decide) ?_)
    exact br_t (by decide) (ym_d145 (by omega) (by omega) h2 h6 v w x y (hx (by omega)) (hy h2) h)
  · have h2 : 2 ≤ n := hn
    unfold wY_done_35
    iterate 8 (refine br_f (by decide) ?_)
    exact br_t (by decide) (ym_d145 (by omega) (by omega) h2 h6 v w x y (hx (by omega)) (hy h2) h)
  · have h2 : 2 ≤ n := hn
    unfold wY_done_35
    iterate 9 (refine br_f (by decide) ?_)
    exact br_t (by decide) (ym_d145 (by omega) (by omega) h2 h6 v w x y (hx (by omega)) (hy h2) h)
  · have h1 : 1 ≤ n := hn
    unfold wY_done_35
    repeat (first | refine br_f (by decide) ?_ | refine br_t (by decide) ?_)
    rw [fx_e1 h1]; exact h
  · have h1 : 1 ≤ n := hn
    have h5 : n ≤ 6 := h6
    obtain rfl := hx h1
    unfold wY_done_35
    repeat (first | refine br_f (by decide) ?_ | refine br_t (by decide) ?_)
    have e1 := fx_e1 h1
    have ec := pk_cl (n - 1) e1
    refine ⟨by decide, nm_e (br_c (fun z => ⟨pk_in (n - 1) 6 (by omega) e1, nm_r (by rw [ec] <;> rfl) ?_⟩) (fun z => ⟨pk_in (n - 1) 6 (by omega) e1, nm_r (by rw [ec] <;> rfl) ?_⟩))⟩
    · have e : (fx_do b_stack n 9 v w).1 = upd b_stack (n - 1) (fx_hash (b_stack (n - 1))) := rfl
      rw [e, fx_hash_y, if_pos z] at h; exact h
    · have e : (fx_do b_stack n 9 v w).1 = upd b_stack (n - 1) (fx_hash (b_stack (n - 1))) := rfl
      rw [e, fx_hash_y, if_neg z] at h; exact h
  · unfold wY_done_35
    repeat (first | refine br_f (by decide) ?_ | refine br_t (by decide) ?_)
    exact h
  · have h5 : n < 6 := by have : fx_more 11 = 1 := rfl; omega
    unfold wY_done_35
    repeat (first | refine br_f (by decide) ?_ | refine br_t (by decide) ?_)
    rw [nI_1 n]
    exact ⟨pk_in n 6 h5, nm_r (by rw [pk_cl n] <;> rfl) h⟩
  · have h1 : 1 ≤ n := hn
    unfold wY_done_35
    repeat (first | refine br_f (by decide) ?_ | refine br_t (by decide) ?_)
    rw [fx_e1 h1]; exact h
theorem ym_done {k n : Nat} (hk : k ≤ 12) (hn : fx_need k ≤ n) (h6 : n + fx_more k ≤ 6) (v w : Int32) {post : Int32 → SY → Prop} (h : post (nI (fx_do b_stack n k v w).2) (g_made, g_blocks, g_arrivals, g_tip, g_pooled, g_chainLength, b_op, b_arg, b_length, b_ins, b_inCoin, b_inA, b_inB, b_outs, b_amount, b_lock, b_parent, b_work, b_rewardLock, b_height, b_many, b_holds, b_delivered, b_arrived, b_pool, b_chain, b_from, b_worth, b_within, b_spent, (fx_do b_stack n k v w).1, b_again, b_chosen)) : wpY_done post (g_made, g_blocks, g_arrivals, g_tip, g_pooled, g_chainLength, b_op, b_arg, b_length, b_ins, b_inCoin, b_inA, b_inB, b_outs, b_amount, b_lock, b_parent, b_work, b_rewardLock, b_height, b_many, b_holds, b_delivered, b_arrived, b_pool, b_chain, b_from, b_worth, b_within, b_spent, b_stack, b_again, b_chosen) (nI k) v (nI n) w := by
  refine pk_le n 0 (fun h0 => pk_le n 1 (fun _ => ym_d35 hk hn h6 v w _ _ (fun _ => by omega) (fun _ => by omega) h) (fun _ => by omega)) (fun h0 => ?_)
  have e1 := fx_e1 h0
  have ec := congrArg b_stack (pk_cl (n - 1) e1)
  refine ⟨pk_in (n - 1) 6 (by omega) e1, pk_le n 1 (fun _ => ym_d35 hk hn h6 v w _ _ (fun _ => ec) (fun _ => by omega) h) (fun h2 => ?_)⟩
  have e2 := fx_e2 h2
  have ec2 := congrArg b_stack (pk_cl (n - 2) e2)
  exact ⟨pk_in (n - 2) 6 (by omega) e2, ym_d35 hk hn h6 v w _ _ (fun _ => ec) (fun _ => ec2) h⟩
theorem ym_f118 {k : Nat} (hk : k ≤ 12) {post : Int32 → SY → Prop} {J : Int32 → Int32 → Int32 → Int32 → Int32 → Int32 → Int32 → Int32 → (Nat → Int32) → (Nat → Int32) → (Nat → Int32) → (Nat → Int32) → (Nat → Int32) → (Nat → Int32) → (Nat → Int32) → (Nat → Int32) → (Nat → Int32) → (Nat → Int32) → (Nat → Int32) → (Nat → Int32) → (Nat → Int32) → (Nat → Int32) → (Nat → Int32) → (Nat → Int32) → (Nat → Int32) → (Nat → Int32) → (Nat → Int32) → (Nat → Int32) → (Nat → Int32) → (Nat → Int32) → (Nat → Int32) → (Nat → Int32) → (Nat → Int32) → (Nat → Int32) → (Nat → Int32) → Prop} {x4 x5 x6 x7 x8 z : Int32} (h : wY_fits_143 post J x4 x5 x6 x7 x8 (nI k) z (nI (fx_more k)) g_made g_blocks g_arrivals g_tip g_pooled g_chainLength b_op b_arg b_length b_ins b_inCoin b_inA b_inB b_outs b_amount b_lock b_parent b_work b_rewardLock b_height b_many b_holds b_delivered b_arrived b_pool b_chain b_from b_worth b_within b_spent b_stack b_again b_chosen) : wY_fits_118 post J x4 x5 x6 x7 x8 (nI k) z g_made g_blocks g_arrivals g_tip g_pooled g_chainLength b_op b_arg b_length b_ins b_inCoin b_inA b_inB b_outs b_amount b_lock b_parent b_work b_rewardLock b_height b_many b_holds b_delivered b_arrived b_pool b_chain b_from b_worth b_within b_spent b_stack b_again b_chosen := by
  rcases (by omega : k = 0 ∨ k = 1 ∨ k = 2 ∨ k = 3 ∨ k = 4 ∨ k = 5 ∨ k = 6 ∨ k = 7 ∨ k = 8 ∨ k = 9 ∨ k = 10 ∨ k = 11 ∨ k = 12) with rfl | rfl | rfl | rfl | rfl | rfl | rfl | rfl | rfl | rfl | rfl | rfl | rfl <;>
  · unfold wY_fits_118
    unfold wY_fits_138
    repeat (first | refine br_f (by decide) ?_ | refine br_t (by decide) ?_)
    exact h
theorem ym_f96 {k : Nat} (hk : k ≤ 12) {post : Int32 → SY → Prop} {J : Int32 → Int32 → Int32 → Int32 → Int32 → Int32 → Int32 → Int32 → (Nat → Int32) → (Nat → Int32) → (Nat → Int32) → (Nat → Int32) → (Nat → Int32) → (Nat → Int32) → (Nat → Int32) → (Nat → Int32) → (Nat → Int32) → (Nat → Int32) → (Nat → Int32) → (Nat → Int32) → (Nat → Int32) → (Nat → Int32) → (Nat → Int32) → (Nat → Int32) → (Nat → Int32) → (Nat → Int32) → (Nat → Int32) → (Nat → Int32) → (Nat → Int32) → (Nat → Int32) → (Nat → Int32) → (Nat → Int32) → (Nat → Int32) → (Nat → Int32) → (Nat → Int32) → Prop} {x4 x5 x6 x7 x8 : Int32} (h : wY_fits_118 post J x4 x5 x6 x7 x8 (nI k) (nI (fx_need k)) g_made g_blocks g_arrivals g_tip g_pooled g_chainLength b_op b_arg b_length b_ins b_inCoin b_inA b_inB b_outs b_amount b_lock b_parent b_work b_rewardLock b_height b_many b_holds b_delivered b_arrived b_pool b_chain b_from b_worth b_within b_spent b_stack b_again b_chosen) :
    ((nI k = 0 → (wY_fits_96 post J x4 x5 x6 x7 x8 (nI k) g_made g_blocks g_arrivals g_tip g_pooled g_chainLength b_op b_arg b_length b_ins b_inCoin b_inA b_inB b_outs b_amount b_lock b_parent b_work b_rewardLock b_height b_many b_holds b_delivered b_arrived b_pool b_chain b_from b_worth b_within b_spent b_stack b_again b_chosen)) ∧ (¬ nI k = 0 → (((nI k = 10 → (wY_fits_96 post J x4 x5 x6 x7 x8 (nI k) g_made g_blocks g_arrivals g_tip g_pooled g_chainLength b_op b_arg b_length b_ins b_inCoin b_inA b_inB b_outs b_amount b_lock b_parent b_work b_rewardLock b_height b_many b_holds b_delivered b_arrived b_pool b_chain b_from b_worth b_within b_spent b_stack b_again b_chosen)) ∧ (¬ nI k = 10 → (((nI k = 11 → (wY_fits_96 post J x4 x5 x6 x7 x8 (nI k) g_made g_blocks g_arrivals g_tip g_pooled g_chainLength b_op b_arg b_length b_ins b_inCoin b_inA b_inB b_outs b_amount b_lock b_parent b_work b_rewardLock b_height b_many b_holds b_delivered b_arrived b_pool b_chain b_from b_worth b_within b_spent b_stack b_again b_chosen)) ∧ (¬ nI k = 11 → (((nI k ≤ 2 → (wY_fits_117 post J x4 x5 x6 x7 x8 (nI k) g_made g_blocks g_arrivals g_tip g_pooled g_chainLength b_op b_arg b_length b_ins b_inCoin b_inA b_inB b_outs b_amount b_lock b_parent b_work b_rewardLock b_height b_many b_holds b_delivered b_arrived b_pool b_chain b_from b_worth b_within b_spent b_stack b_again b_chosen)) ∧ (¬ nI k ≤ 2 → (((8 ≤ nI k → (wY_fits_117 post J x4 x5 x6 x7 x8 (nI k) g_made g_blocks g_arrivals g_tip g_pooled g_chainLength b_op b_arg b_length b_ins b_inCoin b_inA b_inB b_outs b_amount b_lock b_parent b_work b_rewardLock b_height b_many b_holds b_delivered b_arrived b_pool b_chain b_from b_worth b_within b_spent b_stack b_again b_chosen)) ∧ (¬ 8 ≤ nI k → (wY_fits_118 post J x4 x5 x6 x7 x8 (nI k) 2 g_made g_blocks g_arrivals g_tip g_pooled g_chainLength b_op b_arg b_length b_ins b_inCoin b_inA b_inB b_outs b_amount b_lock b_parent b_work b_rewardLock b_height b_many b_holds b_delivered b_arrived b_pool b_chain b_from b_worth b_within b_spent b_stack b_again b_chosen))))))))))))))) := by
  rcases (by omega : k = 0 ∨ k = 1 ∨ k = 2 ∨ k = 3 ∨ k = 4 ∨ k = 5 ∨ k = 6 ∨ k = 7 ∨ k = 8 ∨ k = 9 ∨ k = 10 ∨ k = 11 ∨ k = 12) with rfl | rfl | rfl | rfl | rfl | rfl | rfl | rfl | rfl | rfl | rfl | rfl | rfl <;>
  · unfold wY_fits_96 wY_fits_117
    repeat (first | exact h | refine br_f (by decide) ?_ | refine br_t (by decide) ?_)
theorem ym_f188 {k n p : Nat} (hk : k ≤ 12) (hn : fx_need k ≤ n) (h6 : n + fx_more k ≤ 6) (hp : p < 64) (w g x6 : Int32) {post : Int32 → SY → Prop} {J : Int32 → Int32 → Int32 → Int32 → Int32 → Int32 → Int32 → Int32 → (Nat → Int32) → (Nat → Int32) → (Nat → Int32) → (Nat → Int32) → (Nat → Int32) → (Nat → Int32) → (Nat → Int32) → (Nat → Int32) → (Nat → Int32) → (Nat → Int32) → (Nat → Int32) → (Nat → Int32) → (Nat → Int32) → (Nat → Int32) → (Nat → Int32) → (Nat → Int32) → (Nat → Int32) → (Nat → Int32) → (Nat → Int32) → (Nat → Int32) → (Nat → Int32) → (Nat → Int32) → (Nat → Int32) → (Nat → Int32) → (Nat → Int32) → (Nat → Int32) → (Nat → Int32) → Prop}
    (h8 : k = 8 → b_stack (n - 1) = 0 → post 0 (g_made, g_blocks, g_arrivals, g_tip, g_pooled, g_chainLength, b_op, b_arg, b_length, b_ins, b_inCoin, b_inA, b_inB, b_outs, b_amount, b_lock, b_parent, b_work, b_rewardLock, b_height, b_many, b_holds, b_delivered, b_arrived, b_pool, b_chain, b_from, b_worth, b_within, b_spent, b_stack, b_again, b_chosen))
    (h1 : k = 12 → b_stack (n - 1) = 0 → J (nI (fx_do b_stack n k (b_arg p) w).2) (nI p + b_arg p + 1) g_made g_blocks g_arrivals g_tip g_pooled g_chainLength b_op b_arg b_length b_ins b_inCoin b_inA b_inB b_outs b_amount b_lock b_parent b_work b_rewardLock b_height b_many b_holds b_delivered b_arrived b_pool b_chain b_from b_worth b_within b_spent ((fx_do b_stack n k (b_arg p) w).1) b_again b_chosen)
    (h2 : ¬ (k = 12 ∧ b_stack (n - 1) = 0) → ¬ (k = 8 ∧ b_stack (n - 1) = 0) → J (nI (fx_do b_stack n k (b_arg p) w).2) (nI p + 1) g_made g_blocks g_arrivals g_tip g_pooled g_chainLength b_op b_arg b_length b_ins b_inCoin b_inA b_inB b_outs b_amount b_lock b_parent b_work b_rewardLock b_height b_many b_holds b_delivered b_arrived b_pool b_chain b_from b_worth b_within b_spent ((fx_do b_stack n k (b_arg p) w).1) b_again b_chosen) :
    wY_fits_188 post J w g x6 (nI n) (nI p) (nI k) g_made g_blocks g_arrivals g_tip g_pooled g_chainLength b_op b_arg b_length b_ins b_inCoin b_inA b_inB b_outs b_amount b_lock b_parent b_work b_rewardLock b_height b_many b_holds b_delivered b_arrived b_pool b_chain b_from b_worth b_within b_spent b_stack b_again b_chosen := by
  have epc : b_arg (nI p).toNatClampNeg = b_arg p := congrArg b_arg (pk_cl p)
  refine pk_eq k 8 (fun e => ?_) (fun e => ?_)
  · subst e
    have hn1 : 1 ≤ n := hn
    have h5 : n ≤ 6 := h6
    have e1 : nI n - 1 = nI (n - 1) := fx_e1 (by omega)
    have ec := congrArg b_stack (pk_cl (n - 1) e1)
    refine ⟨pk_in (n - 1) 6 (by omega) e1, br_c (fun z => h8 rfl (ec ▸ z)) (fun z => ⟨pk_in p 64 hp, nm_r epc (br_f (by decide) (ym_done hk hn h6 _ w (nm_e (h2 (fun q => by omega) (fun q => z (ec.trans q.2))))))⟩)⟩
  · refine ⟨pk_in p 64 hp, nm_r epc (pk_eq k 12 (fun e => ?_) (fun e2 => ?_))⟩
    · subst e
      have hn1 : 1 ≤ n := hn
      have h5 : n ≤ 6 := h6
      have e1 : nI n - 1 = nI (n - 1) := fx_e1 (by omega)
      have ec := congrArg b_stack (pk_cl (n - 1) e1)
      refine ⟨pk_in (n - 1) 6 (by omega) e1, br_c (fun z => nm_e (ym_done hk hn h6 _ w (nm_e (h1 rfl (ec ▸ z))))) (fun z => ym_done hk hn h6 _ w (nm_e (h2 (fun q => z (ec.trans q.2)) (fun q => by omega))))⟩
    · exact ym_done hk hn h6 _ w (nm_e (h2 (fun q => e2 q.1) (fun q => e q.1)))
theorem ym_f50 {s L : Nat} {h g : Int32} (hs : s < 8) (hL : L ≤ 8) (eL : b_length s = nI L) (hop : ∀ i, i < L → ∃ k, k ≤ 12 ∧ b_op (8 * s + i) = nI k ∧ (k = 12 → ∃ v, v ≤ 8 ∧ b_arg (8 * s + i) = nI v)) {post : Int32 → SY → Prop} : ∀ (fuel i n : Nat) (a : Nat → Int32), L < i + fuel → i ≤ 100 → n ≤ 6 →
    (fx_run b_op b_arg h g (L - i) (8 * s + i) 0 a n → ∀ st, post 1 (g_made, g_blocks, g_arrivals, g_tip, g_pooled, g_chainLength, b_op, b_arg, b_length, b_ins, b_inCoin, b_inA, b_inB, b_outs, b_amount, b_lock, b_parent, b_work, b_rewardLock, b_height, b_many, b_holds, b_delivered, b_arrived, b_pool, b_chain, b_from, b_worth, b_within, b_spent, st, b_again, b_chosen)) →
    (¬ fx_run b_op b_arg h g (L - i) (8 * s + i) 0 a n → ∀ st, post 0 (g_made, g_blocks, g_arrivals, g_tip, g_pooled, g_chainLength, b_op, b_arg, b_length, b_ins, b_inCoin, b_inA, b_inB, b_outs, b_amount, b_lock, b_parent, b_work, b_rewardLock, b_height, b_many, b_holds, b_delivered, b_arrived, b_pool, b_chain, b_from, b_worth, b_within, b_spent, st, b_again, b_chosen)) →
    wY_fits_50 post h g (nI s) (fuel + 1) (nI n) (nI (8 * s + i)) g_made g_blocks g_arrivals g_tip g_pooled g_chainLength b_op b_arg b_length b_ins b_inCoin b_inA b_inB b_outs b_amount b_lock b_parent b_work b_rewardLock b_height b_many b_holds b_delivered b_arrived b_pool b_chain b_from b_worth b_within b_spent a b_again b_chosen := by
  have ec : b_length (nI s).toNatClampNeg = nI L := by rw [nI_clamp (by omega)]; exact eL
  have e8 : 8 * nI s + b_length (nI s).toNatClampNeg = nI (8 * s + L) := by rw [ec, show (8 : Int32) = nI 8 from rfl, pk_mul, nI_add]
  intro fuel
  induction fuel with
  | zero =>
    intro i n a hi hi2 h6 H1 H0
    rw [show L - i = 0 by omega, fx_run] at H1 H0
    refine ⟨vp_in_nI hs (by omega), pk_le (8 * s + L) (8 * s + i) (fun _ => pk_le n 0 (fun hn => H0 (fun z => by omega) _) (fun hn => ?_)) (fun z => by omega) e8⟩
    have e1 : nI n - 1 = nI (n - 1) := fx_e1 (by omega)
    have ea := congrArg a (pk_cl (n - 1) e1)
    exact ⟨pk_in (n - 1) 6 (by omega) e1, br_c (fun z => H0 (fun q => q.2 (ea ▸ z)) _) (fun z => H1 ⟨hn, fun q => z (ea.trans q)⟩ _)⟩
  | succ fuel ih =>
    intro i n a hi hi2 h6 H1 H0
    refine ⟨vp_in_nI hs (by omega), pk_le (8 * s + L) (8 * s + i) (fun hx => ?_) (fun hx => ?_) e8⟩
    · rw [show L - i = 0 by omega, fx_run] at H1 H0
      refine pk_le n 0 (fun hn => H0 (fun z => by omega) _) (fun hn => ?_)
      have e1 : nI n - 1 = nI (n - 1) := fx_e1 (by omega)
      have ea := congrArg a (pk_cl (n - 1) e1)
      exact ⟨pk_in (n - 1) 6 (by omega) e1, br_c (fun z => H0 (fun q => q.2 (ea ▸ z)) _) (fun z => H1 ⟨hn, fun q => z (ea.trans q)⟩ _)⟩
    · obtain ⟨r, hr⟩ : ∃ r, L - i = r + 1 := ⟨L - i - 1, by omega⟩
      rw [hr, fx_run] at H1 H0
      obtain ⟨k, hk, ek, hv⟩ := hop i (by omega)
      have ekc : (b_op (8 * s + i)).toNatClampNeg = k := by rw [ek]; exact nI_clamp (by omega)
      rw [ekc] at H1 H0
      have hneed : fx_need k ≤ 2 := by unfold fx_need; split <;> omega
      have hmore : fx_more k ≤ 1 := by unfold fx_more; split <;> omega
      have epc : b_arg (nI (8 * s + i)).toNatClampNeg = b_arg (8 * s + i) := congrArg b_arg (pk_cl (8 * s + i))
      refine ⟨pk_in (8 * s + i) 64 (by omega), nm_r ((congrArg b_op (pk_cl (8 * s + i))).trans ek) (ym_f96 hk (ym_f118 hk ?_))⟩
      refine pk_lt n (fx_need k) (fun hlt => H0 (fun q => by have := q.1; omega) _) (fun hge => ?_)
      have main : n + fx_more k ≤ 6 → ((k = 10 → b_arg (8 * s + i) ≤ h - g)) → wY_fits_188 post (wY_fits_50 post h g (nI s) (fuel + 1)) h g (nI s) (nI n) (nI (8 * s + i)) (nI k) g_made g_blocks g_arrivals g_tip g_pooled g_chainLength b_op b_arg b_length b_ins b_inCoin b_inA b_inB b_outs b_amount b_lock b_parent b_work b_rewardLock b_height b_many b_holds b_delivered b_arrived b_pool b_chain b_from b_worth b_within b_spent a b_again b_chosen := by
        intro hm h10
        have hdn : (fx_do a n k (b_arg (8 * s + i)) h).2 ≤ 6 := by
          unfold fx_do; unfold fx_more at hm; split <;> dsimp only at hm ⊢ <;> omega
        refine ym_f188 hk hge hm (by omega) _ _ _ (fun e z => H0 (fun q => q.2.2.2.1 e z) _) (fun e z => ?_) (fun q1 q2 => ?_)
        · obtain ⟨v, hv8, ev⟩ := hv e
          have evc : (b_arg (8 * s + i)).toNatClampNeg = v := by rw [ev]; exact nI_clamp (by omega)
          rw [evc] at H1 H0
          have en : nI (8 * s + i) + b_arg (8 * s + i) + 1 = nI (8 * s + (i + v + 1)) := by rw [ev, nI_add, nI_1]; exact congrArg nI (by omega)
          have ej := fx_run_jump b_op b_arg h g v r (8 * s + i + 1) (fx_do a n k (b_arg (8 * s + i)) h).1 (fx_do a n k (b_arg (8 * s + i)) h).2
          rw [fx_ar1 hr, show 8 * s + i + 1 + v = 8 * s + (i + v + 1) by omega] at ej
          rw [en]
          exact ih (i + v + 1) _ _ (by omega) (by omega) hdn (fun hr' => H1 ⟨hge, hm, h10, fun e8 => by omega, fun _ => ej.mpr hr', fun q => (q ⟨e, z⟩).elim⟩) (fun hr' => H0 fun q => hr' (ej.mp (q.2.2.2.2.1 ⟨e, z⟩)))
        · rw [nI_1]
          have er : r = L - (i + 1) := fx_ar2 hr
          rw [er, show 8 * s + i + 1 = 8 * s + (i + 1) by omega] at H1 H0
          exact ih (i + 1) _ _ (by omega) (by omega) hdn (fun hr => H1 ⟨hge, hm, h10, fun e8 z => q2 ⟨e8, z⟩, fun q => (q1 q).elim, fun _ => hr⟩) (fun hr => H0 fun q => hr (q.2.2.2.2.2 q1))
      have main2 : n + fx_more k ≤ 6 → wY_fits_164 post (wY_fits_50 post h g (nI s) (fuel + 1)) h g (nI s) (nI n) (nI (8 * s + i)) (nI k) g_made g_blocks g_arrivals g_tip g_pooled g_chainLength b_op b_arg b_length b_ins b_inCoin b_inA b_inB b_outs b_amount b_lock b_parent b_work b_rewardLock b_height b_many b_holds b_delivered b_arrived b_pool b_chain b_from b_worth b_within b_spent a b_again b_chosen := by
        intro hm
        refine pk_eq k 10 (fun e => ⟨pk_in (8 * s + i) 64 (by omega), ?_⟩) (fun e => main hm fun q => (e q).elim)
        rw [epc]
        exact br_c (fun z => main hm fun _ => z) (fun z => H0 (fun q => z (q.2.2.1 e)) _)
      exact pk_eq (fx_more k) 0 (fun e => main2 (by omega)) (fun e => pk_eq n 6 (fun e6 => H0 (fun q => by have := q.2.1; omega) _) (fun e6 => main2 (by omega)))
theorem ym_fits {c s : Nat} {A B h g : Int32} (hc : c < 152) (hs : s < 8) (e1 : c < 120 → b_lock c = nI s) (e2 : 120 ≤ c → b_rewardLock (c - 120) = nI s) (ht : fx_tok b_length b_op b_arg) {post : Int32 → SY → Prop}
    (H1 : fx_fits b_length b_op b_arg s A B h g → ∀ st, post 1 (g_made, g_blocks, g_arrivals, g_tip, g_pooled, g_chainLength, b_op, b_arg, b_length, b_ins, b_inCoin, b_inA, b_inB, b_outs, b_amount, b_lock, b_parent, b_work, b_rewardLock, b_height, b_many, b_holds, b_delivered, b_arrived, b_pool, b_chain, b_from, b_worth, b_within, b_spent, st, b_again, b_chosen))
    (H0 : ¬ fx_fits b_length b_op b_arg s A B h g → ∀ st, post 0 (g_made, g_blocks, g_arrivals, g_tip, g_pooled, g_chainLength, b_op, b_arg, b_length, b_ins, b_inCoin, b_inA, b_inB, b_outs, b_amount, b_lock, b_parent, b_work, b_rewardLock, b_height, b_many, b_holds, b_delivered, b_arrived, b_pool, b_chain, b_from, b_worth, b_within, b_spent, st, b_again, b_chosen)) :
    wpY_fits post (g_made, g_blocks, g_arrivals, g_tip, g_pooled, g_chainLength, b_op, b_arg, b_length, b_ins, b_inCoin, b_inA, b_inB, b_outs, b_amount, b_lock, b_parent, b_work, b_rewardLock, b_height, b_many, b_holds, b_delivered, b_arrived, b_pool, b_chain, b_from, b_worth, b_within, b_spent, b_stack, b_again, b_chosen) (nI c) A B h g := by
  obtain ⟨L, hL, eL, hop⟩ := ht s hs
  have eLc : (b_length s).toNatClampNeg = L := by rw [eL]; exact nI_clamp (by omega)
  rw [← fx_fits_of _ _ _ b_stack, eLc] at H1 H0
  have e8 : 8 * nI s = nI (8 * s + 0) := by rw [show (8 : Int32) = nI 8 from rfl, pk_mul]; rfl
  have main : wY_fits_24 post A B h g (nI s) g_made g_blocks g_arrivals g_tip g_pooled g_chainLength b_op b_arg b_length b_ins b_inCoin b_inA b_inB b_outs b_amount b_lock b_parent b_work b_rewardLock b_height b_many b_holds b_delivered b_arrived b_pool b_chain b_from b_worth b_within b_spent b_stack b_again b_chosen :=
    nm_e (nm_e (nm_r e8 ⟨L + 1 + 1, ym_f50 hs hL eL hop (L + 1) 0 2 _ (by omega) (by omega) (by omega) H1 H0⟩))
  refine pk_le 120 c (fun h120 => ?_) (fun h120 => ?_)
  · have ex : nI c - 120 = nI (c - 120) := pk_sub (b := 120) h120
    refine ⟨pk_in (c - 120) 33 (by omega) ex, ?_⟩
    rw [pk_cl (c - 120) ex, e2 h120]; exact main
  · refine ⟨pk_in c 123 (by omega), ?_⟩
    rw [pk_cl c, e1 h120]; exact main
end
end
section
/-! the pure picture: data D of transactions, blocks, scripts; what a chain lays -/
abbrev pd_F : Type := Nat → Int32
abbrev pd_D : Type := pd_F × pd_F × pd_F × pd_F × pd_F × pd_F × pd_F × pd_F × pd_F × pd_F × pd_F × pd_F × pd_F × pd_F × pd_F × pd_F × pd_F
abbrev pd_tc (D : pd_D) : pd_F := D.1
abbrev pd_op (D : pd_D) : pd_F := D.2.1
abbrev pd_tv (D : pd_D) : pd_F := D.2.2.1
abbrev pd_ic (D : pd_D) : pd_F := D.2.2.2.1
abbrev pd_co (D : pd_D) : pd_F := D.2.2.2.2.1
abbrev pd_ia (D : pd_D) : pd_F := D.2.2.2.2.2.1
abbrev pd_ib (D : pd_D) : pd_F := D.2.2.2.2.2.2.1
abbrev pd_oc (D : pd_D) : pd_F := D.2.2.2.2.2.2.2.1
abbrev pd_oa (D : pd_D) : pd_F := D.2.2.2.2.2.2.2.2.1
abbrev pd_os (D : pd_D) : pd_F := D.2.2.2.2.2.2.2.2.2.1
abbrev pd_pa (D : pd_D) : pd_F := D.2.2.2.2.2.2.2.2.2.2.1
abbrev pd_he (D : pd_D) : pd_F := D.2.2.2.2.2.2.2.2.2.2.2.1
abbrev pd_rs (D : pd_D) : pd_F := D.2.2.2.2.2.2.2.2.2.2.2.2.1
abbrev pd_bs (D : pd_D) : pd_F := D.2.2.2.2.2.2.2.2.2.2.2.2.2.1
abbrev pd_bt (D : pd_D) : pd_F := D.2.2.2.2.2.2.2.2.2.2.2.2.2.2.1
abbrev pd_fe (D : pd_D) : pd_F := D.2.2.2.2.2.2.2.2.2.2.2.2.2.2.2.1
abbrev pd_rw (D : pd_D) : pd_F := D.2.2.2.2.2.2.2.2.2.2.2.2.2.2.2.2
/-- coin heights, spent, transaction heights -/
abbrev pd_S : Type := pd_F × pd_F × pd_F
def pd_setH (f : pd_F) (base n : Nat) (h : Int32) : pd_F := fun c => if base ≤ c ∧ c < base + n then h else f c
def pd_spend (f co : pd_F) (base : Nat) : Nat → pd_F
  | 0 => f
  | n + 1 => upd (pd_spend f co base n) (co (base + n)).toNatClampNeg 1
def pd_layTx (D : pd_D) (t : Nat) (h : Int32) (S : pd_S) : pd_S := (pd_setH S.1 (3 * t) (pd_oc D t).toNatClampNeg h, pd_spend S.2.1 (pd_co D) (3 * t) (pd_ic D t).toNatClampNeg, upd S.2.2 t h)
def pd_txs (D : pd_D) (b : Nat) (h : Int32) : Nat → pd_S → pd_S
  | 0, S => S
  | n + 1, S => pd_layTx D (pd_bt D (4 * b + n)).toNatClampNeg h (pd_txs D b h n S)
def pd_blk (D : pd_D) (b : Nat) (S : pd_S) : pd_S :=
  (upd (pd_txs D b (pd_he D b) (pd_bs D b).toNatClampNeg S).1 (120 + b) (pd_he D b), (pd_txs D b (pd_he D b) (pd_bs D b).toNatClampNeg S).2)
def pd_S0 : pd_S := (fun c => if c < 152 then -1 else 0, fun _ => 0, fun t => if t < 40 then -1 else 0)
def pd_lay (D : pd_D) : Nat → Nat → pd_S
  | 0, b => pd_blk D b pd_S0
  | n + 1, b => pd_blk D b (pd_lay D n (pd_pa D b).toNatClampNeg)
def pd_sc (D : pd_D) (c : Nat) : Nat := if c < 120 then (pd_os D c).toNatClampNeg else (pd_rs D (c - 120)).toNatClampNeg
def pd_fit (D : pd_D) (c : Nat) (A B h g : Int32) : Prop := fx_fits (pd_tc D) (pd_op D) (pd_tv D) (pd_sc D c) A B h g
def pd_okIn (D : pd_D) (S : pd_S) (h : Int32) (p : Nat) : Prop :=
  0 ≤ S.1 (pd_co D p).toNatClampNeg ∧ S.2.1 (pd_co D p).toNatClampNeg = 0 ∧ (120 ≤ (pd_co D p).toNatClampNeg → 2 ≤ h - S.1 (pd_co D p).toNatClampNeg)
    ∧ pd_fit D (pd_co D p).toNatClampNeg (pd_ia D p) (pd_ib D p) h (S.1 (pd_co D p).toNatClampNeg)
def pd_okTx (D : pd_D) (S : pd_S) (t : Nat) (h : Int32) : Prop :=
  S.2.2 t < 0 ∧ (∀ i, i < (pd_ic D t).toNatClampNeg → pd_okIn D S h (3 * t + i)) ∧ 0 ≤ pd_fe D t
def pd_okTxs (D : pd_D) (b : Nat) (h : Int32) : Nat → pd_S → Prop
  | 0, _ => True
  | n + 1, S => pd_okTxs D b h n S ∧ pd_okTx D (pd_txs D b h n S) (pd_bt D (4 * b + n)).toNatClampNeg h
def pd_valid (D : pd_D) : Nat → Nat → Prop
  | 0, _ => True
  | n + 1, b => pd_valid D n (pd_pa D b).toNatClampNeg ∧ pd_okTxs D b (pd_he D b) (pd_bs D b).toNatClampNeg (pd_lay D n (pd_pa D b).toNatClampNeg)
def pd_anc (D : pd_D) (b : Nat) : Nat → Nat
  | 0 => b
  | k + 1 => (pd_pa D (pd_anc D b k)).toNatClampNeg
def pd_coin (D : pd_D) (made blocks c : Nat) : Prop := (c < 120 ∧ c / 3 < made ∧ c % 3 < (pd_oc D (c / 3)).toNatClampNeg) ∨ (120 ≤ c ∧ c - 120 < blocks)
/-- one transaction is as make lets it be -/
def pd_wfT (D : pd_D) (blocks t : Nat) : Prop := ∃ n m, 1 ≤ n ∧ n ≤ 3 ∧ 1 ≤ m ∧ m ≤ 3 ∧ pd_ic D t = nI n ∧ pd_oc D t = nI m
    ∧ (∀ i, i < n → ∃ c, c < 152 ∧ pd_co D (3 * t + i) = nI c ∧ pd_coin D t blocks c)
    ∧ (∀ i j, i < n → j < n → pd_co D (3 * t + i) = pd_co D (3 * t + j) → i = j)
    ∧ (∀ o, o < m → ∃ s, s < 8 ∧ pd_os D (3 * t + o) = nI s)
def pd_wfB (D : pd_D) (made b : Nat) : Prop := (∃ h, h ≤ b ∧ pd_he D b = nI h) ∧ (∃ s, s < 8 ∧ pd_rs D b = nI s)
    ∧ (∃ n, n ≤ 4 ∧ pd_bs D b = nI n ∧ ∀ i, i < n → ∃ t, t < made ∧ pd_bt D (4 * b + i) = nI t)
    ∧ (0 < b → ∃ p, p < b ∧ pd_pa D b = nI p ∧ pd_he D b = pd_he D p + 1)
def pd_wf (D : pd_D) (made blocks : Nat) : Prop := 1 ≤ blocks ∧ blocks ≤ 32 ∧ made ≤ 40 ∧ pd_bs D 0 = 0 ∧ (∀ t, t < made → pd_wfT D blocks t) ∧ (∀ b, b < blocks → pd_wfB D made b)
def pd_used (D : pd_D) (made blocks s : Nat) : Prop := (∃ b, b < blocks ∧ pd_rs D b = nI s) ∨ (∃ t o, t < made ∧ o < (pd_oc D t).toNatClampNeg ∧ pd_os D (3 * t + o) = nI s)
def pd_agT (D E : pd_D) (t : Nat) : Prop := pd_ic E t = pd_ic D t ∧ pd_oc E t = pd_oc D t ∧ pd_fe E t = pd_fe D t
    ∧ (∀ i, i < (pd_ic D t).toNatClampNeg → pd_co E (3 * t + i) = pd_co D (3 * t + i) ∧ pd_ia E (3 * t + i) = pd_ia D (3 * t + i) ∧ pd_ib E (3 * t + i) = pd_ib D (3 * t + i))
    ∧ (∀ o, o < (pd_oc D t).toNatClampNeg → pd_oa E (3 * t + o) = pd_oa D (3 * t + o) ∧ pd_os E (3 * t + o) = pd_os D (3 * t + o))
def pd_agB (D E : pd_D) (b : Nat) : Prop := pd_he E b = pd_he D b ∧ pd_rs E b = pd_rs D b ∧ pd_bs E b = pd_bs D b ∧ pd_rw E b = pd_rw D b ∧ (0 < b → pd_pa E b = pd_pa D b)
    ∧ (∀ i, i < (pd_bs D b).toNatClampNeg → pd_bt E (4 * b + i) = pd_bt D (4 * b + i))
def pd_agS (D E : pd_D) (s : Nat) : Prop := pd_tc E s = pd_tc D s ∧ ∀ i, i < (pd_tc D s).toNatClampNeg → pd_op E (8 * s + i) = pd_op D (8 * s + i) ∧ pd_tv E (8 * s + i) = pd_tv D (8 * s + i)
def pd_ag (D E : pd_D) (made blocks : Nat) : Prop := (∀ t, t < made → pd_agT D E t) ∧ (∀ b, b < blocks → pd_agB D E b) ∧ (∀ s, pd_used D made blocks s → pd_agS D E s)
/-- what holds of every state that a chain lays -/
def pd_inv (D : pd_D) (made blocks : Nat) (S : pd_S) : Prop := (∀ c, 152 ≤ c → S.1 c = 0) ∧ (∀ c, 152 ≤ c → S.2.1 c = 0) ∧ (∀ t, 40 ≤ t → S.2.2 t = 0)
    ∧ (∀ c, c < 152 → 0 ≤ S.1 c → pd_coin D made blocks c) ∧ (∀ c, c < 120 → 0 ≤ S.1 c → 0 ≤ S.2.2 (c / 3)) ∧ (∀ t, 0 ≤ S.2.2 t → t < 40 → t < made)
/-! ### small facts -/
theorem pd_m1 : ¬ (0 : Int32) ≤ -1 := by decide
theorem pd_cl {x : Int32} {n : Nat} (e : x = nI n) (h : n < 2 ^ 31) : x.toNatClampNeg = n := by rw [e]; exact nI_clamp h
theorem pd_setH_0 (f : pd_F) (base : Nat) (h : Int32) : pd_setH f base 0 h = f := by
  funext c; unfold pd_setH; rw [if_neg (by omega)]
theorem pd_setH_s (f : pd_F) (base n : Nat) (h : Int32) : pd_setH f base (n + 1) h = upd (pd_setH f base n h) (base + n) h := by
  funext c; unfold pd_setH upd; dsimp only
  by_cases e : c = base + n
  · rw [if_pos (by omega), if_pos e]
  · rw [if_neg e]
    by_cases q : base ≤ c ∧ c < base + n
    · rw [if_pos q, if_pos (by omega)]
    · rw [if_neg q, if_neg (by omega)]
theorem pd_setH_in {f : pd_F} {base n c : Nat} {h : Int32} (q : base ≤ c ∧ c < base + n) : pd_setH f base n h c = h := if_pos q
theorem pd_setH_no {f : pd_F} {base n c : Nat} {h : Int32} (q : ¬ (base ≤ c ∧ c < base + n)) : pd_setH f base n h c = f c := if_neg q
theorem pd_spend_no {f co : pd_F} {base c : Nat} : ∀ n, (∀ i, i < n → (co (base + i)).toNatClampNeg ≠ c) → pd_spend f co base n c = f c := by
  intro n
  induction n with
  | zero => intro _; rfl
  | succ n ih => intro h; rw [pd_spend, pk_un (fun e => h n (by omega) e.symm)]; exact ih fun i hi => h i (by omega)
theorem pd_spend_or {f co : pd_F} {base c : Nat} : ∀ n, (pd_spend f co base n c = f c) ∨ (∃ i, i < n ∧ (co (base + i)).toNatClampNeg = c) := by
  intro n
  induction n with
  | zero => exact Or.inl rfl
  | succ n ih =>
    by_cases e : (co (base + n)).toNatClampNeg = c
    · exact Or.inr ⟨n, by omega, e⟩
    · rw [pd_spend, pk_un (fun q => e q.symm)]
      rcases ih with h | ⟨i, hi, e⟩
      · exact Or.inl h
      · exact Or.inr ⟨i, by omega, e⟩
theorem pd_spend_01 {f co : pd_F} {base c : Nat} (hf : f c = 0 ∨ f c = 1) : ∀ n, pd_spend f co base n c = 0 ∨ pd_spend f co base n c = 1 := by
  intro n
  induction n with
  | zero => exact hf
  | succ n ih =>
    by_cases e : c = (co (base + n)).toNatClampNeg
    · right; rw [pd_spend, ← e, pk_us]
    · rw [pd_spend, pk_un e]; exact ih
theorem pd_spend_eq {f co co' : pd_F} {base : Nat} : ∀ n, (∀ i, i < n → co' (base + i) = co (base + i)) → pd_spend f co' base n = pd_spend f co base n := by
  intro n
  induction n with
  | zero => intro _; rfl
  | succ n ih => intro h; rw [pd_spend, pd_spend, h n (by omega), ih fun i hi => h i (by omega)]
/-! ### agreement -/
theorem fx_run_op {op arg op' arg' : pd_F} {h g : Int32} : ∀ (r p s : Nat) (a : pd_F) (n : Nat), (∀ q, p ≤ q → q < p + r → op' q = op q ∧ arg' q = arg q) → (fx_run op' arg' h g r p s a n ↔ fx_run op arg h g r p s a n) := by
  intro r
  induction r with
  | zero => intro p s a n _; rw [fx_run, fx_run]
  | succ r ih =>
    intro p s a n H
    have H' : ∀ q, p + 1 ≤ q → q < p + 1 + r → op' q = op q ∧ arg' q = arg q := fun q h1 h2 => H q (by omega) (by omega)
    cases s with
    | succ s => rw [fx_run, fx_run]; exact ih _ _ _ _ H'
    | zero =>
      obtain ⟨e1, e2⟩ := H p (by omega) (by omega)
      rw [fx_run, fx_run, e1, e2, ih _ _ _ _ H', ih _ _ _ _ H']
theorem fx_fits_op {tc op arg tc' op' arg' : pd_F} {s : Nat} {A B h g : Int32} (e : tc' s = tc s) (H : ∀ i, i < (tc s).toNatClampNeg → op' (8 * s + i) = op (8 * s + i) ∧ arg' (8 * s + i) = arg (8 * s + i)) : fx_fits tc' op' arg' s A B h g ↔ fx_fits tc op arg s A B h g := by
  unfold fx_fits
  rw [e]
  refine fx_run_op _ _ _ _ _ fun q h1 h2 => ?_
  obtain ⟨i, rfl⟩ : ∃ i, q = 8 * s + i := ⟨q - 8 * s, by omega⟩
  exact H i (by omega)
theorem pd_used_sc {D : pd_D} {made blocks c : Nat} (w : pd_wf D made blocks) (hc : c < 152) (h : pd_coin D made blocks c) : pd_used D made blocks (pd_sc D c) ∧ pd_sc D c < 8 := by
  obtain ⟨w1, w2, w3, w4, wT, wB⟩ := w
  unfold pd_sc
  rcases h with ⟨h1, h2, h3⟩ | ⟨h1, h2⟩
  · rw [if_pos h1]
    obtain ⟨n, m, _, _, _, hm, _, em, _, _, ho⟩ := wT _ h2
    rw [pd_cl em (by omega)] at h3
    obtain ⟨s, hs, es⟩ := ho _ h3
    rw [show 3 * (c / 3) + c % 3 = c by omega] at es
    rw [pd_cl es (by omega)]
    refine ⟨Or.inr ⟨c / 3, c % 3, h2, ?_, ?_⟩, hs⟩
    · rw [pd_cl em (by omega)]; exact h3
    · rw [show 3 * (c / 3) + c % 3 = c by omega]; exact es
  · rw [if_neg (by omega)]
    obtain ⟨_, ⟨s, hs, es⟩, _⟩ := wB _ h2
    rw [pd_cl es (by omega)]
    exact ⟨Or.inl ⟨_, h2, es⟩, hs⟩
theorem pd_ag_sc {D E : pd_D} {made blocks c : Nat} (w : pd_wf D made blocks) (a : pd_ag D E made blocks) (h : pd_coin D made blocks c) : pd_sc E c = pd_sc D c := by
  obtain ⟨aT, aB, aS⟩ := a
  unfold pd_sc
  rcases h with ⟨h1, h2, h3⟩ | ⟨h1, h2⟩
  · rw [if_pos h1, if_pos h1]
    have := ((aT _ h2).2.2.2.2 _ h3).2
    rw [show 3 * (c / 3) + c % 3 = c by omega] at this
    rw [this]
  · rw [if_neg (by omega), if_neg (by omega), (aB _ h2).2.1]
theorem pd_ag_fit {D E : pd_D} {made blocks c : Nat} {A B h g : Int32} (w : pd_wf D made blocks) (a : pd_ag D E made blocks) (hc : c < 152) (hq : pd_coin D made blocks c) : pd_fit E c A B h g ↔ pd_fit D c A B h g := by
  unfold pd_fit
  rw [pd_ag_sc w a hq]
  obtain ⟨e, H⟩ := a.2.2 _ (pd_used_sc w hc hq).1
  exact fx_fits_op e H
theorem pd_ag_tx {D E : pd_D} {t : Nat} {h : Int32} {S : pd_S} (a : pd_agT D E t) : pd_layTx E t h S = pd_layTx D t h S := by
  obtain ⟨e1, e2, _, e3, _⟩ := a
  unfold pd_layTx
  rw [e1, e2, pd_spend_eq _ fun i hi => (e3 i hi).1]
theorem pd_wf_co {D : pd_D} {made blocks t i : Nat} (w : pd_wf D made blocks) (ht : t < made) (hi : i < (pd_ic D t).toNatClampNeg) : ∃ c, c < 152 ∧ pd_co D (3 * t + i) = nI c ∧ (pd_co D (3 * t + i)).toNatClampNeg = c ∧ pd_coin D t blocks c := by
  obtain ⟨n, m, _, hn, _, hm, en, em, hc, _, ho⟩ := w.2.2.2.2.1 _ ht
  rw [pd_cl en (by omega)] at hi
  obtain ⟨c, h1, h2, h3⟩ := hc i hi
  exact ⟨c, h1, h2, pd_cl h2 (by omega), h3⟩
theorem pd_ag_okTx {D E : pd_D} {made blocks t : Nat} {h : Int32} {S : pd_S} (w : pd_wf D made blocks) (a : pd_ag D E made blocks) (ht : t < made) (hS : ∀ c, c < 152 → 0 ≤ S.1 c → pd_coin D made blocks c) : pd_okTx E S t h ↔ pd_okTx D S t h := by
  obtain ⟨e1, e2, e3, e4, e5⟩ := a.1 _ ht
  unfold pd_okTx
  rw [e1, e3]
  refine and_congr Iff.rfl (and_congr (forall_congr' fun i => ?_) Iff.rfl)
  refine imp_congr_right fun hi => ?_
  obtain ⟨c, hc, _, ec, _⟩ := pd_wf_co w ht hi
  obtain ⟨q1, q2, q3⟩ := e4 i hi
  unfold pd_okIn
  rw [q1, q2, q3, ec]
  refine and_congr_right fun h0 => and_congr Iff.rfl (and_congr Iff.rfl ?_)
  exact pd_ag_fit w a hc (hS c hc h0)
theorem pd_bt_of {D : pd_D} {made blocks b i : Nat} (w : pd_wf D made blocks) (hb : b < blocks) (hi : i < (pd_bs D b).toNatClampNeg) : ∃ t, t < made ∧ pd_bt D (4 * b + i) = nI t ∧ (pd_bt D (4 * b + i)).toNatClampNeg = t := by
  obtain ⟨_, _, ⟨n, hn, en, ht⟩, _⟩ := w.2.2.2.2.2 _ hb
  rw [pd_cl en (by omega)] at hi
  obtain ⟨t, h1, h2⟩ := ht i hi
  have := w.2.2.1
  exact ⟨t, h1, h2, pd_cl h2 (by omega)⟩
theorem pd_inv_tx {D : pd_D} {made blocks t : Nat} {h : Int32} {S : pd_S} (w : pd_wf D made blocks) (ht : t < made) (hh : 0 ≤ h) (I : pd_inv D made blocks S) : pd_inv D made blocks (pd_layTx D t h S) := by
  obtain ⟨i1, i2, i3, i4, i5, i6⟩ := I
  have hm := w.2.2.1
  obtain ⟨n, m, _, hn, _, hm3, en, em, hc, _, ho⟩ := w.2.2.2.2.1 _ ht
  have emc := pd_cl em (by omega)
  refine ⟨fun c h1 => ?_, fun c h1 => ?_, fun q h1 => ?_, fun c h1 h2 => ?_, fun c h1 h2 => ?_, fun q h1 h2 => ?_⟩
  · show pd_setH _ _ _ _ c = 0
    rw [pd_setH_no (by omega)]; exact i1 c h1
  · show pd_spend _ _ _ _ c = 0
    rw [pd_spend_no, i2 c h1]
    intro i hi e
    obtain ⟨c', h3, _, ec, _⟩ := pd_wf_co w ht hi
    omega
  · show upd _ _ _ q = 0
    rw [pk_un (by omega)]; exact i3 q h1
  · by_cases q : 3 * t ≤ c ∧ c < 3 * t + (pd_oc D t).toNatClampNeg
    · have : c / 3 = t := by omega
      left; rw [this]; exact ⟨by omega, ht, by omega⟩
    · have h2' : 0 ≤ pd_setH S.1 (3 * t) (pd_oc D t).toNatClampNeg h c := h2
      rw [pd_setH_no q] at h2'; exact i4 c h1 h2'
  · show 0 ≤ upd S.2.2 t h (c / 3)
    by_cases q : c / 3 = t
    · rw [q, pk_us]; exact hh
    · rw [pk_un q]
      have h2' : 0 ≤ pd_setH S.1 (3 * t) (pd_oc D t).toNatClampNeg h c := h2
      rw [pd_setH_no (by omega)] at h2'; exact i5 c h1 h2'
  · by_cases e : q = t
    · omega
    · have h1' : 0 ≤ upd S.2.2 t h q := h1
      rw [pk_un e] at h1'; exact i6 q h1' h2
theorem pd_inv_txs {D : pd_D} {made blocks b : Nat} {h : Int32} {S : pd_S} (w : pd_wf D made blocks) (hb : b < blocks) (hh : 0 ≤ h) (I : pd_inv D made blocks S) : ∀ n, n ≤ (pd_bs D b).toNatClampNeg → pd_inv D made blocks (pd_txs D b h n S) := by
  intro n
  induction n with
  | zero => intro _; exact I
  | succ n ih =>
    intro hn
    obtain ⟨t, h1, h2, h3⟩ := pd_bt_of w hb (i := n) (by omega)
    rw [pd_txs, h3]
    exact pd_inv_tx w h1 hh (ih (by omega))
theorem pd_he_of {D : pd_D} {made blocks b : Nat} (w : pd_wf D made blocks) (hb : b < blocks) : ∃ n, n ≤ b ∧ n < 32 ∧ pd_he D b = nI n := by
  obtain ⟨⟨n, h1, h2⟩, _⟩ := w.2.2.2.2.2 _ hb
  have := w.2.1
  exact ⟨n, h1, by omega, h2⟩
theorem pd_par {D : pd_D} {made blocks b n : Nat} (w : pd_wf D made blocks) (hb : b < blocks) (he : pd_he D b = nI (n + 1)) (hn : n + 1 < 2 ^ 31) : ∃ p, p < b ∧ pd_pa D b = nI p ∧ (pd_pa D b).toNatClampNeg = p ∧ pd_he D p = nI n := by
  obtain ⟨⟨h, hle, eh⟩, _, _, hp⟩ := w.2.2.2.2.2 _ hb
  have := w.2.1
  rw [eh, nI_eq (by omega) (by omega)] at he
  obtain ⟨p, h1, h2, h3⟩ := hp (by omega)
  obtain ⟨q, h4, h5, h6⟩ := pd_he_of w (b := p) (by omega)
  rw [eh, h6, nI_1, nI_eq (by omega) (by omega)] at h3
  exact ⟨p, h1, h2, pd_cl h2 (by omega), by rw [h6]; exact congrArg nI (by omega)⟩
theorem pd_par0 {D : pd_D} {made blocks b : Nat} (w : pd_wf D made blocks) (hb : b < blocks) (he : pd_he D b = nI 0) : b = 0 := by
  obtain ⟨⟨h, hle, eh⟩, _, _, hp⟩ := w.2.2.2.2.2 _ hb
  have := w.2.1
  rcases Nat.eq_zero_or_pos b with e | e
  · exact e
  · obtain ⟨p, h1, h2, h3⟩ := hp e
    obtain ⟨q, h4, h5, h6⟩ := pd_he_of w (b := p) (by omega)
    rw [he, h6, nI_1, nI_eq (by omega) (by omega)] at h3
    omega
theorem pd_inv_blk {D : pd_D} {made blocks b : Nat} {S : pd_S} (w : pd_wf D made blocks) (hb : b < blocks) (I : pd_inv D made blocks S) : pd_inv D made blocks (pd_blk D b S) := by
  obtain ⟨n, _, h2, h3⟩ := pd_he_of w hb
  have hh : 0 ≤ pd_he D b := by rw [h3]; exact nI_pos' (by omega)
  obtain ⟨i1, i2, i3, i4, i5, i6⟩ := pd_inv_txs w hb hh I _ (Nat.le_refl _)
  have := w.2.1
  refine ⟨fun c h1 => ?_, i2, i3, fun c h1 h2 => ?_, fun c h1 h2 => ?_, i6⟩
  · show upd _ _ _ c = 0
    rw [pk_un (by omega)]; exact i1 c h1
  · by_cases e : c = 120 + b
    · exact Or.inr (by omega)
    · have h2' : 0 ≤ upd (pd_txs D b (pd_he D b) (pd_bs D b).toNatClampNeg S).1 (120 + b) (pd_he D b) c := h2
      rw [pk_un e] at h2'; exact i4 c h1 h2'
  · have h2' : 0 ≤ upd (pd_txs D b (pd_he D b) (pd_bs D b).toNatClampNeg S).1 (120 + b) (pd_he D b) c := h2
    rw [pk_un (by omega)] at h2'; exact i5 c h1 h2'
theorem pd_inv_0 (D : pd_D) (made blocks : Nat) : pd_inv D made blocks pd_S0 := by
  refine ⟨fun c h => if_neg (by omega), fun c h => rfl, fun t h => if_neg (by omega), fun c h1 h2 => ?_, fun c h1 h2 => ?_, fun t h1 h2 => ?_⟩
  · have h2' : (0 : Int32) ≤ if c < 152 then -1 else 0 := h2
    rw [if_pos h1] at h2'; exact (pd_m1 h2').elim
  · have h2' : (0 : Int32) ≤ if c < 152 then -1 else 0 := h2
    rw [if_pos (by omega)] at h2'; exact (pd_m1 h2').elim
  · have h2' : (0 : Int32) ≤ if t < 40 then -1 else 0 := h1
    rw [if_pos h2] at h2'; exact (pd_m1 h2').elim
theorem pd_inv_lay {D : pd_D} {made blocks : Nat} (w : pd_wf D made blocks) : ∀ n b, b < blocks → pd_he D b = nI n → n < 32 → pd_inv D made blocks (pd_lay D n b) := by
  intro n
  induction n with
  | zero => intro b hb _ _; exact pd_inv_blk w hb (pd_inv_0 D made blocks)
  | succ n ih =>
    intro b hb he hn
    obtain ⟨p, h1, h2, h3, h4⟩ := pd_par w hb he (by omega)
    rw [pd_lay, h3]
    exact pd_inv_blk w hb (ih p (by omega) h4 (by omega))
theorem pd_ag_txs {D E : pd_D} {made blocks b : Nat} {h : Int32} {S : pd_S} (w : pd_wf D made blocks) (a : pd_ag D E made blocks) (hb : b < blocks) : ∀ n, n ≤ (pd_bs D b).toNatClampNeg → pd_txs E b h n S = pd_txs D b h n S := by
  intro n
  induction n with
  | zero => intro _; rfl
  | succ n ih =>
    intro hn
    obtain ⟨t, h1, h2, h3⟩ := pd_bt_of w hb (i := n) (by omega)
    rw [pd_txs, pd_txs, (a.2.1 _ hb).2.2.2.2.2 n (by omega), h3, ih (by omega), pd_ag_tx (a.1 _ h1)]
theorem pd_ag_okTxs {D E : pd_D} {made blocks b : Nat} {h : Int32} {S : pd_S} (w : pd_wf D made blocks) (a : pd_ag D E made blocks) (hb : b < blocks) (hh : 0 ≤ h) (I : pd_inv D made blocks S) : ∀ n, n ≤ (pd_bs D b).toNatClampNeg → (pd_okTxs E b h n S ↔ pd_okTxs D b h n S) := by
  intro n
  induction n with
  | zero => intro _; exact Iff.rfl
  | succ n ih =>
    intro hn
    obtain ⟨t, h1, h2, h3⟩ := pd_bt_of w hb (i := n) (by omega)
    rw [pd_okTxs, pd_okTxs, (a.2.1 _ hb).2.2.2.2.2 n (by omega), h3, ih (by omega), pd_ag_txs w a hb n (by omega), pd_ag_okTx w a h1 (pd_inv_txs w hb hh I n (by omega)).2.2.2.1]
theorem pd_ag_blk {D E : pd_D} {made blocks b : Nat} {S : pd_S} (w : pd_wf D made blocks) (a : pd_ag D E made blocks) (hb : b < blocks) : pd_blk E b S = pd_blk D b S := by
  obtain ⟨e1, _, e3, _⟩ := a.2.1 _ hb
  unfold pd_blk
  rw [e1, e3, pd_ag_txs w a hb _ (Nat.le_refl _)]
theorem pd_ag_lay {D E : pd_D} {made blocks : Nat} (w : pd_wf D made blocks) (a : pd_ag D E made blocks) : ∀ n b, b < blocks → pd_he D b = nI n → n < 32 → pd_lay E n b = pd_lay D n b := by
  intro n
  induction n with
  | zero => intro b hb _ _; exact pd_ag_blk w a hb
  | succ n ih =>
    intro b hb he hn
    obtain ⟨p, h1, h2, h3, h4⟩ := pd_par w hb he (by omega)
    rw [pd_lay, pd_lay, (a.2.1 _ hb).2.2.2.2.1 (by omega), h3, ih p (by omega) h4 (by omega), pd_ag_blk w a hb]
theorem pd_ag_valid {D E : pd_D} {made blocks : Nat} (w : pd_wf D made blocks) (a : pd_ag D E made blocks) : ∀ n b, b < blocks → pd_he D b = nI n → n < 32 → (pd_valid E n b ↔ pd_valid D n b) := by
  intro n
  induction n with
  | zero => intro b hb _ _; exact Iff.rfl
  | succ n ih =>
    intro b hb he hn
    obtain ⟨p, h1, h2, h3, h4⟩ := pd_par w hb he (by omega)
    obtain ⟨e1, _, e3, _, e5, _⟩ := a.2.1 _ hb
    rw [pd_valid, pd_valid, e5 (by omega), h3, e1, e3, ih p (by omega) h4 (by omega), pd_ag_lay w a n p (by omega) h4 (by omega),
      pd_ag_okTxs w a hb (by rw [he]; exact nI_pos' (by omega)) (pd_inv_lay w n p (by omega) h4 (by omega)) _ (Nat.le_refl _)]
theorem pd_ag_anc {D E : pd_D} {made blocks b : Nat} (w : pd_wf D made blocks) (a : pd_ag D E made blocks) (hb : b < blocks) {n : Nat} (he : pd_he D b = nI n) (hn : n < 32) : ∀ k, k ≤ n → pd_anc E b k = pd_anc D b k ∧ pd_anc D b k < blocks ∧ pd_he D (pd_anc D b k) = nI (n - k) := by
  intro k
  induction k with
  | zero => intro _; exact ⟨rfl, hb, he⟩
  | succ k ih =>
    intro hk
    obtain ⟨e, h1, h2⟩ := ih (by omega)
    obtain ⟨p, q1, q2, q3, q4⟩ := pd_par w h1 (n := n - k - 1) (by rw [h2]; exact congrArg nI (by omega)) (by omega)
    rw [pd_anc, pd_anc, e, (a.2.1 _ h1).2.2.2.2.1 (by omega), q3]
    exact ⟨rfl, by omega, by rw [q4]; exact congrArg nI (by omega)⟩
theorem pd_ag_refl (D : pd_D) (made blocks : Nat) : pd_ag D D made blocks :=
  ⟨fun _ _ => ⟨rfl, rfl, rfl, fun _ _ => ⟨rfl, rfl, rfl⟩, fun _ _ => ⟨rfl, rfl⟩⟩, fun _ _ => ⟨rfl, rfl, rfl, rfl, fun _ => rfl, fun _ _ => rfl⟩, fun _ _ => ⟨rfl, fun _ _ => ⟨rfl, rfl⟩⟩⟩
theorem pd_anc_of {D : pd_D} {made blocks b : Nat} (w : pd_wf D made blocks) (hb : b < blocks) {n : Nat} (he : pd_he D b = nI n) (hn : n < 32) : ∀ k, k ≤ n → pd_anc D b k < blocks ∧ pd_he D (pd_anc D b k) = nI (n - k) :=
  fun k hk => (pd_ag_anc w (pd_ag_refl D made blocks) hb he hn k hk).2
end
section
/-! X: what a chain lays -/
theorem xb_1 : vp_nar .boolean 1 = 1 := rfl
theorem xb_0 : vp_nar .boolean 0 = 0 := rfl
theorem xb_3 (t i : Nat) : nI t * 3 + nI i = nI (3 * t + i) := by rw [show (3 : Int32) = nI 3 from rfl, pk_mul, nI_add, Nat.mul_comm]
theorem xb_4 (t i : Nat) : nI t * 4 + nI i = nI (4 * t + i) := by rw [show (4 : Int32) = nI 4 from rfl, pk_mul, nI_add, Nat.mul_comm]
section
variable {f_stackSize f_transactions f_putCount f_blocks f_tip f_poolCount f_queueCount : Int32} {a_tokenCount a_tokenOp a_tokenValue a_scriptInUse a_stack a_inputCount a_inputCoin a_inputA a_inputB a_outputCount a_outputAmount a_outputScript a_feeOf a_putRow a_parentOf a_heightOf a_chainWork a_blockState a_rewardAmount a_rewardScript a_blockSize a_blockTransaction a_laidBlock a_coinHeight a_coinSpent a_transactionHeight a_poolRow a_marked a_queue : Nat → Int32}
theorem xm_lt47 {t m : Nat} {h : Int32} (ht : t < 40) (hm : m ≤ 3) (em : a_outputCount t = nI m) {post : SX → Prop} (f : Nat → Int32) (H : post (f_stackSize, f_transactions, f_putCount, f_blocks, f_tip, f_poolCount, f_queueCount, a_tokenCount, a_tokenOp, a_tokenValue, a_scriptInUse, a_stack, a_inputCount, a_inputCoin, a_inputA, a_inputB, a_outputCount, a_outputAmount, a_outputScript, a_feeOf, a_putRow, a_parentOf, a_heightOf, a_chainWork, a_blockState, a_rewardAmount, a_rewardScript, a_blockSize, a_blockTransaction, a_laidBlock, pd_setH f (3 * t) m h, a_coinSpent, a_transactionHeight, a_poolRow, a_marked, a_queue)) :
    ∀ (d i fuel : Nat), i + d = m → d < fuel → wX_layTransaction_47 post (nI t) h f_stackSize f_transactions f_putCount f_blocks f_tip f_poolCount f_queueCount fuel (nI i) a_tokenCount a_tokenOp a_tokenValue a_scriptInUse a_stack a_inputCount a_inputCoin a_inputA a_inputB a_outputCount a_outputAmount a_outputScript a_feeOf a_putRow a_parentOf a_heightOf a_chainWork a_blockState a_rewardAmount a_rewardScript a_blockSize a_blockTransaction a_laidBlock (pd_setH f (3 * t) i h) a_coinSpent a_transactionHeight a_poolRow a_marked a_queue := by
  have emc : a_outputCount (nI t).toNatClampNeg = nI m := by rw [nI_clamp (by omega)]; exact em
  intro d
  induction d with
  | zero =>
    intro i fuel hi hf
    obtain ⟨fuel, rfl⟩ : ∃ q, fuel = q + 1 := ⟨fuel - 1, by omega⟩
    obtain rfl : i = m := by omega
    exact ⟨pk_in t 41 (by omega), br_t (by rw [emc]; exact nI_le (Nat.le_refl _) (by omega)) H⟩
  | succ d ih =>
    intro i fuel hi hf
    obtain ⟨fuel, rfl⟩ : ∃ q, fuel = q + 1 := ⟨fuel - 1, by omega⟩
    refine ⟨pk_in t 41 (by omega), pk_le m i (fun z => by omega) (fun z => ⟨pk_in (3 * t + i) 152 (by omega) (xb_3 t i), nm_r ?_ (nm_r (nI_1 i) (ih (i + 1) fuel (by omega) (by omega)))⟩) emc⟩
    rw [pk_cl (3 * t + i) (xb_3 t i), pd_setH_s]
theorem xm_lt9 {t n m : Nat} {h : Int32} (ht : t < 40) (hn : n ≤ 3) (en : a_inputCount t = nI n) (hm : m ≤ 3) (em : a_outputCount t = nI m) (hc : ∀ i, i < n → ∃ c, c < 152 ∧ a_inputCoin (3 * t + i) = nI c) {post : SX → Prop} (f : Nat → Int32) (H : post (f_stackSize, f_transactions, f_putCount, f_blocks, f_tip, f_poolCount, f_queueCount, a_tokenCount, a_tokenOp, a_tokenValue, a_scriptInUse, a_stack, a_inputCount, a_inputCoin, a_inputA, a_inputB, a_outputCount, a_outputAmount, a_outputScript, a_feeOf, a_putRow, a_parentOf, a_heightOf, a_chainWork, a_blockState, a_rewardAmount, a_rewardScript, a_blockSize, a_blockTransaction, a_laidBlock, pd_setH a_coinHeight (3 * t) m h, pd_spend f a_inputCoin (3 * t) n, a_transactionHeight, a_poolRow, a_marked, a_queue)) :
    ∀ (d i fuel : Nat), i + d = n → d < fuel → wX_layTransaction_9 post (nI t) h f_stackSize f_transactions f_putCount f_blocks f_tip f_poolCount f_queueCount fuel (nI i) a_tokenCount a_tokenOp a_tokenValue a_scriptInUse a_stack a_inputCount a_inputCoin a_inputA a_inputB a_outputCount a_outputAmount a_outputScript a_feeOf a_putRow a_parentOf a_heightOf a_chainWork a_blockState a_rewardAmount a_rewardScript a_blockSize a_blockTransaction a_laidBlock a_coinHeight (pd_spend f a_inputCoin (3 * t) i) a_transactionHeight a_poolRow a_marked a_queue := by
  have enc : a_inputCount (nI t).toNatClampNeg = nI n := by rw [nI_clamp (by omega)]; exact en
  intro d
  induction d with
  | zero =>
    intro i fuel hi hf
    obtain ⟨fuel, rfl⟩ : ∃ q, fuel = q + 1 := ⟨fuel - 1, by omega⟩
    obtain rfl : i = n := by omega
    refine ⟨pk_in t 41 (by omega), br_t (by rw [enc]; exact nI_le (Nat.le_refl _) (by omega)) ⟨m + 1, ?_⟩⟩
    have := xm_lt47 (h := h) ht hm em a_coinHeight H m 0 (m + 1) (by omega) (by omega)
    rw [pd_setH_0] at this
    exact this
  | succ d ih =>
    intro i fuel hi hf
    obtain ⟨fuel, rfl⟩ : ∃ q, fuel = q + 1 := ⟨fuel - 1, by omega⟩
    obtain ⟨c, hc1, hc2⟩ := hc i (by omega)
    refine ⟨pk_in t 41 (by omega), pk_le n i (fun z => by omega) (fun z => ⟨pk_in (3 * t + i) 123 (by omega) (xb_3 t i), nm_r ((congrArg a_inputCoin (pk_cl (3 * t + i) (xb_3 t i))).trans hc2) ⟨pk_in c 152 hc1, nm_r ?_ (nm_r (nI_1 i) (ih (i + 1) fuel (by omega) (by omega)))⟩⟩) enc⟩
    rw [pd_spend, hc2]; rfl
theorem xm_layTx {made blocks t : Nat} {h : Int32} (w : pd_wf (a_tokenCount, a_tokenOp, a_tokenValue, a_inputCount, a_inputCoin, a_inputA, a_inputB, a_outputCount, a_outputAmount, a_outputScript, a_parentOf, a_heightOf, a_rewardScript, a_blockSize, a_blockTransaction, a_feeOf, a_rewardAmount) made blocks) (ht : t < made) {post : SX → Prop} (S : pd_S) (H : post (f_stackSize, f_transactions, f_putCount, f_blocks, f_tip, f_poolCount, f_queueCount, a_tokenCount, a_tokenOp, a_tokenValue, a_scriptInUse, a_stack, a_inputCount, a_inputCoin, a_inputA, a_inputB, a_outputCount, a_outputAmount, a_outputScript, a_feeOf, a_putRow, a_parentOf, a_heightOf, a_chainWork, a_blockState, a_rewardAmount, a_rewardScript, a_blockSize, a_blockTransaction, a_laidBlock, (pd_layTx (a_tokenCount, a_tokenOp, a_tokenValue, a_inputCount, a_inputCoin, a_inputA, a_inputB, a_outputCount, a_outputAmount, a_outputScript, a_parentOf, a_heightOf, a_rewardScript, a_blockSize, a_blockTransaction, a_feeOf, a_rewardAmount) t h S).1, (pd_layTx (a_tokenCount, a_tokenOp, a_tokenValue, a_inputCount, a_inputCoin, a_inputA, a_inputB, a_outputCount, a_outputAmount, a_outputScript, a_parentOf, a_heightOf, a_rewardScript, a_blockSize, a_blockTransaction, a_feeOf, a_rewardAmount) t h S).2.1, (pd_layTx (a_tokenCount, a_tokenOp, a_tokenValue, a_inputCount, a_inputCoin, a_inputA, a_inputB, a_outputCount, a_outputAmount, a_outputScript, a_parentOf, a_heightOf, a_rewardScript, a_blockSize, a_blockTransaction, a_feeOf, a_rewardAmount) t h S).2.2, a_poolRow, a_marked, a_queue)) : wpX_layTransaction post (f_stackSize, f_transactions, f_putCount, f_blocks, f_tip, f_poolCount, f_queueCount, a_tokenCount, a_tokenOp, a_tokenValue, a_scriptInUse, a_stack, a_inputCount, a_inputCoin, a_inputA, a_inputB, a_outputCount, a_outputAmount, a_outputScript, a_feeOf, a_putRow, a_parentOf, a_heightOf, a_chainWork, a_blockState, a_rewardAmount, a_rewardScript, a_blockSize, a_blockTransaction, a_laidBlock, S.1, S.2.1, S.2.2, a_poolRow, a_marked, a_queue) (nI t) h := by
  have hm := w.2.2.1
  obtain ⟨n, m, _, hn, _, hm3, en, em, hc, _⟩ := w.2.2.2.2.1 _ ht
  have en' : a_inputCount t = nI n := en
  have em' : a_outputCount t = nI m := em
  have hc' : ∀ i, i < n → ∃ c, c < 152 ∧ a_inputCoin (3 * t + i) = nI c := fun i hi => by
    obtain ⟨c, h1, h2, _⟩ := hc i hi
    exact ⟨c, h1, h2⟩
  have H' : post (f_stackSize, f_transactions, f_putCount, f_blocks, f_tip, f_poolCount, f_queueCount, a_tokenCount, a_tokenOp, a_tokenValue, a_scriptInUse, a_stack, a_inputCount, a_inputCoin, a_inputA, a_inputB, a_outputCount, a_outputAmount, a_outputScript, a_feeOf, a_putRow, a_parentOf, a_heightOf, a_chainWork, a_blockState, a_rewardAmount, a_rewardScript, a_blockSize, a_blockTransaction, a_laidBlock, pd_setH S.1 (3 * t) m h, pd_spend S.2.1 a_inputCoin (3 * t) n, upd S.2.2 t h, a_poolRow, a_marked, a_queue) := by
    have e1 : (a_inputCount t).toNatClampNeg = n := pd_cl en' (by omega)
    have e2 : (a_outputCount t).toNatClampNeg = m := pd_cl em' (by omega)
    unfold pd_layTx at H
    dsimp only at H
    rw [e1, e2] at H
    exact H
  refine ⟨pk_in t 40 (by omega), nm_r (by rw [pk_cl t]) ⟨n + 1, xm_lt9 (by omega) hn en' hm3 em' hc' S.2.1 H' n 0 (n + 1) (by omega) (by omega)⟩⟩
theorem xm_layBlk {made blocks b : Nat} (w : pd_wf (a_tokenCount, a_tokenOp, a_tokenValue, a_inputCount, a_inputCoin, a_inputA, a_inputB, a_outputCount, a_outputAmount, a_outputScript, a_parentOf, a_heightOf, a_rewardScript, a_blockSize, a_blockTransaction, a_feeOf, a_rewardAmount) made blocks) (hb : b < blocks) {post : SX → Prop} (S : pd_S) (H : post (f_stackSize, f_transactions, f_putCount, f_blocks, f_tip, f_poolCount, f_queueCount, a_tokenCount, a_tokenOp, a_tokenValue, a_scriptInUse, a_stack, a_inputCount, a_inputCoin, a_inputA, a_inputB, a_outputCount, a_outputAmount, a_outputScript, a_feeOf, a_putRow, a_parentOf, a_heightOf, a_chainWork, a_blockState, a_rewardAmount, a_rewardScript, a_blockSize, a_blockTransaction, a_laidBlock, (pd_blk (a_tokenCount, a_tokenOp, a_tokenValue, a_inputCount, a_inputCoin, a_inputA, a_inputB, a_outputCount, a_outputAmount, a_outputScript, a_parentOf, a_heightOf, a_rewardScript, a_blockSize, a_blockTransaction, a_feeOf, a_rewardAmount) b S).1, (pd_blk (a_tokenCount, a_tokenOp, a_tokenValue, a_inputCount, a_inputCoin, a_inputA, a_inputB, a_outputCount, a_outputAmount, a_outputScript, a_parentOf, a_heightOf, a_rewardScript, a_blockSize, a_blockTransaction, a_feeOf, a_rewardAmount) b S).2.1, (pd_blk (a_tokenCount, a_tokenOp, a_tokenValue, a_inputCount, a_inputCoin, a_inputA, a_inputB, a_outputCount, a_outputAmount, a_outputScript, a_parentOf, a_heightOf, a_rewardScript, a_blockSize, a_blockTransaction, a_feeOf, a_rewardAmount) b S).2.2, a_poolRow, a_marked, a_queue)) : wpX_layBlock post (f_stackSize, f_transactions, f_putCount, f_blocks, f_tip, f_poolCount, f_queueCount, a_tokenCount, a_tokenOp, a_tokenValue, a_scriptInUse, a_stack, a_inputCount, a_inputCoin, a_inputA, a_inputB, a_outputCount, a_outputAmount, a_outputScript, a_feeOf, a_putRow, a_parentOf, a_heightOf, a_chainWork, a_blockState, a_rewardAmount, a_rewardScript, a_blockSize, a_blockTransaction, a_laidBlock, S.1, S.2.1, S.2.2, a_poolRow, a_marked, a_queue) (nI b) := by
  have hbk := w.2.1
  obtain ⟨hh, _, hh2, eh⟩ := pd_he_of w hb
  have eh' : a_heightOf b = nI hh := eh
  obtain ⟨_, _, ⟨n, hn, en, _⟩, _⟩ := w.2.2.2.2.2 _ hb
  have en' : a_blockSize b = nI n := en
  have ebs : (a_blockSize b).toNatClampNeg = n := pd_cl en' (by omega)
  have enc : a_blockSize (nI b).toNatClampNeg = nI n := by rw [nI_clamp (by omega)]; exact en
  have ehc : a_heightOf (nI b).toNatClampNeg = a_heightOf b := by rw [nI_clamp (by omega)]
  have key : ∀ (d i fuel : Nat), i + d = n → d < fuel → wX_layBlock_2 post (nI b) fuel (nI i) f_stackSize f_transactions f_putCount f_blocks f_tip f_poolCount f_queueCount a_tokenCount a_tokenOp a_tokenValue a_scriptInUse a_stack a_inputCount a_inputCoin a_inputA a_inputB a_outputCount a_outputAmount a_outputScript a_feeOf a_putRow a_parentOf a_heightOf a_chainWork a_blockState a_rewardAmount a_rewardScript a_blockSize a_blockTransaction a_laidBlock ((pd_txs (a_tokenCount, a_tokenOp, a_tokenValue, a_inputCount, a_inputCoin, a_inputA, a_inputB, a_outputCount, a_outputAmount, a_outputScript, a_parentOf, a_heightOf, a_rewardScript, a_blockSize, a_blockTransaction, a_feeOf, a_rewardAmount) b (a_heightOf b) i S).1) ((pd_txs (a_tokenCount, a_tokenOp, a_tokenValue, a_inputCount, a_inputCoin, a_inputA, a_inputB, a_outputCount, a_outputAmount, a_outputScript, a_parentOf, a_heightOf, a_rewardScript, a_blockSize, a_blockTransaction, a_feeOf, a_rewardAmount) b (a_heightOf b) i S).2.1) ((pd_txs (a_tokenCount, a_tokenOp, a_tokenValue, a_inputCount, a_inputCoin, a_inputA, a_inputB, a_outputCount, a_outputAmount, a_outputScript, a_parentOf, a_heightOf, a_rewardScript, a_blockSize, a_blockTransaction, a_feeOf, a_rewardAmount) b (a_heightOf b) i S).2.2) a_poolRow a_marked a_queue := by
    intro d
    induction d with
    | zero =>
      intro i fuel hi hf
      obtain ⟨fuel, rfl⟩ : ∃ q, fuel = q + 1 := ⟨fuel - 1, by omega⟩
      obtain rfl : i = n := by omega
      have e120 : (120 : Int32) + nI b = nI (120 + b) := nI_add 120 b
      refine ⟨pk_in b 32 (by omega), br_t (by rw [enc]; exact nI_le (Nat.le_refl _) (by omega)) ⟨pk_in b 32 (by omega), pk_in (120 + b) 152 (by omega) e120, nm_r (by rw [pk_cl (120 + b) e120, ehc]) ?_⟩⟩
      unfold pd_blk at H
      dsimp only at H
      rw [ebs] at H
      exact H
    | succ d ih =>
      intro i fuel hi hf
      obtain ⟨fuel, rfl⟩ : ∃ q, fuel = q + 1 := ⟨fuel - 1, by omega⟩
      obtain ⟨t, ht, et, etc⟩ := pd_bt_of w hb (i := i) (by show i < (a_blockSize b).toNatClampNeg; omega)
      have et' : a_blockTransaction (nI b * 4 + nI i).toNatClampNeg = nI t := by rw [pk_cl (4 * b + i) (xb_4 b i)]; exact et
      have etc' : (a_blockTransaction (4 * b + i)).toNatClampNeg = t := etc
      refine ⟨pk_in b 32 (by omega), pk_le n i (fun z => by omega) (fun z => ⟨pk_in (4 * b + i) 128 (by omega) (xb_4 b i), pk_in b 32 (by omega), ?_⟩) enc⟩
      rw [et', ehc]
      refine xm_layTx w ht _ (nm_r (nI_1 i) ?_)
      have := ih (i + 1) fuel (by omega) (by omega)
      rw [pd_txs, etc] at this
      exact this
  exact ⟨n + 1, key n 0 (n + 1) (by omega) (by omega)⟩
end
end
section
/-! the whole chain, laid: pure rows, then X's -/
def pd_reset (f : pd_F) (n : Nat) (x : Int32) : pd_F := fun c => if c < n then x else f c
theorem pd_reset_0 (f : pd_F) (x : Int32) : pd_reset f 0 x = f := by funext c; unfold pd_reset; rw [if_neg (by omega)]
theorem pd_reset_s (f : pd_F) (n : Nat) (x : Int32) : pd_reset f (n + 1) x = upd (pd_reset f n x) n x := by
  funext c; unfold pd_reset upd; dsimp only
  by_cases e : c = n
  · rw [if_pos (by omega), if_pos e]
  · rw [if_neg e]
    by_cases q : c < n
    · rw [if_pos q, if_pos (by omega)]
    · rw [if_neg q, if_neg (by omega)]
def pd_out (S : pd_S) : Prop := (∀ c, 152 ≤ c → S.1 c = 0) ∧ (∀ c, 152 ≤ c → S.2.1 c = 0) ∧ (∀ t, 40 ≤ t → S.2.2 t = 0)
theorem pd_inv_out {D : pd_D} {made blocks : Nat} {S : pd_S} (I : pd_inv D made blocks S) : pd_out S := ⟨I.1, I.2.1, I.2.2.1⟩
theorem pd_reset_S {S : pd_S} (o : pd_out S) : (pd_reset S.1 152 (-1), pd_reset S.2.1 152 0, pd_reset S.2.2 40 (-1)) = pd_S0 := by
  obtain ⟨o1, o2, o3⟩ := o
  unfold pd_S0
  refine Prod.ext ?_ (Prod.ext ?_ ?_)
  · funext c; show (if c < 152 then (-1 : Int32) else S.1 c) = if c < 152 then -1 else 0
    by_cases h : c < 152
    · rw [if_pos h, if_pos h]
    · rw [if_neg h, if_neg h, o1 c (by omega)]
  · funext c; show (if c < 152 then (0 : Int32) else S.2.1 c) = 0
    by_cases h : c < 152
    · rw [if_pos h]
    · rw [if_neg h, o2 c (by omega)]
  · funext c; show (if c < 40 then (-1 : Int32) else S.2.2 c) = if c < 40 then -1 else 0
    by_cases h : c < 40
    · rw [if_pos h, if_pos h]
    · rw [if_neg h, if_neg h, o3 c (by omega)]
/-- laid so far: the first h blocks of b's chain, b of height n -/
def pd_T (D : pd_D) (b n : Nat) : Nat → pd_S
  | 0 => pd_S0
  | k + 1 => pd_lay D k (pd_anc D b (n - k))
theorem pd_T_s (D : pd_D) (b n h : Nat) (hh : h ≤ n) : pd_blk D (pd_anc D b (n - h)) (pd_T D b n h) = pd_T D b n (h + 1) := by
  cases h with
  | zero => rfl
  | succ k =>
    show _ = pd_lay D (k + 1) (pd_anc D b (n - (k + 1)))
    rw [pd_lay, pd_T]
    have e : n - k = (n - (k + 1)) + 1 := by omega
    rw [e, pd_anc]
theorem pd_T_n (D : pd_D) (b n : Nat) : pd_T D b n (n + 1) = pd_lay D n b := by rw [pd_T, Nat.sub_self, pd_anc]
section
variable {f_stackSize f_transactions f_putCount f_blocks f_tip f_poolCount f_queueCount : Int32} {a_tokenCount a_tokenOp a_tokenValue a_scriptInUse a_stack a_inputCount a_inputCoin a_inputA a_inputB a_outputCount a_outputAmount a_outputScript a_feeOf a_putRow a_parentOf a_heightOf a_chainWork a_blockState a_rewardAmount a_rewardScript a_blockSize a_blockTransaction a_laidBlock a_coinHeight a_coinSpent a_transactionHeight a_poolRow a_marked a_queue : Nat → Int32}
theorem xm_lc85 {made blocks b n : Nat} (w : pd_wf (a_tokenCount, a_tokenOp, a_tokenValue, a_inputCount, a_inputCoin, a_inputA, a_inputB, a_outputCount, a_outputAmount, a_outputScript, a_parentOf, a_heightOf, a_rewardScript, a_blockSize, a_blockTransaction, a_feeOf, a_rewardAmount) made blocks) (hb : b < blocks) (he : a_heightOf b = nI n) (hn : n < 32) (hl : ∀ h, h ≤ n → a_laidBlock h = nI (pd_anc (a_tokenCount, a_tokenOp, a_tokenValue, a_inputCount, a_inputCoin, a_inputA, a_inputB, a_outputCount, a_outputAmount, a_outputScript, a_parentOf, a_heightOf, a_rewardScript, a_blockSize, a_blockTransaction, a_feeOf, a_rewardAmount) b (n - h))) {post : SX → Prop} (H : post (f_stackSize, f_transactions, f_putCount, f_blocks, f_tip, f_poolCount, f_queueCount, a_tokenCount, a_tokenOp, a_tokenValue, a_scriptInUse, a_stack, a_inputCount, a_inputCoin, a_inputA, a_inputB, a_outputCount, a_outputAmount, a_outputScript, a_feeOf, a_putRow, a_parentOf, a_heightOf, a_chainWork, a_blockState, a_rewardAmount, a_rewardScript, a_blockSize, a_blockTransaction, a_laidBlock, (pd_lay (a_tokenCount, a_tokenOp, a_tokenValue, a_inputCount, a_inputCoin, a_inputA, a_inputB, a_outputCount, a_outputAmount, a_outputScript, a_parentOf, a_heightOf, a_rewardScript, a_blockSize, a_blockTransaction, a_feeOf, a_rewardAmount) n b).1, (pd_lay (a_tokenCount, a_tokenOp, a_tokenValue, a_inputCount, a_inputCoin, a_inputA, a_inputB, a_outputCount, a_outputAmount, a_outputScript, a_parentOf, a_heightOf, a_rewardScript, a_blockSize, a_blockTransaction, a_feeOf, a_rewardAmount) n b).2.1, (pd_lay (a_tokenCount, a_tokenOp, a_tokenValue, a_inputCount, a_inputCoin, a_inputA, a_inputB, a_outputCount, a_outputAmount, a_outputScript, a_parentOf, a_heightOf, a_rewardScript, a_blockSize, a_blockTransaction, a_feeOf, a_rewardAmount) n b).2.2, a_poolRow, a_marked, a_queue)) :
    ∀ (d h fuel : Nat), h + d = n + 1 → d < fuel → wX_layChain_85 post (nI b) fuel (nI h) f_stackSize f_transactions f_putCount f_blocks f_tip f_poolCount f_queueCount a_tokenCount a_tokenOp a_tokenValue a_scriptInUse a_stack a_inputCount a_inputCoin a_inputA a_inputB a_outputCount a_outputAmount a_outputScript a_feeOf a_putRow a_parentOf a_heightOf a_chainWork a_blockState a_rewardAmount a_rewardScript a_blockSize a_blockTransaction a_laidBlock ((pd_T (a_tokenCount, a_tokenOp, a_tokenValue, a_inputCount, a_inputCoin, a_inputA, a_inputB, a_outputCount, a_outputAmount, a_outputScript, a_parentOf, a_heightOf, a_rewardScript, a_blockSize, a_blockTransaction, a_feeOf, a_rewardAmount) b n h).1) ((pd_T (a_tokenCount, a_tokenOp, a_tokenValue, a_inputCount, a_inputCoin, a_inputA, a_inputB, a_outputCount, a_outputAmount, a_outputScript, a_parentOf, a_heightOf, a_rewardScript, a_blockSize, a_blockTransaction, a_feeOf, a_rewardAmount) b n h).2.1) ((pd_T (a_tokenCount, a_tokenOp, a_tokenValue, a_inputCount, a_inputCoin, a_inputA, a_inputB, a_outputCount, a_outputAmount, a_outputScript, a_parentOf, a_heightOf, a_rewardScript, a_blockSize, a_blockTransaction, a_feeOf, a_rewardAmount) b n h).2.2) a_poolRow a_marked a_queue := by
  have hbk := w.2.1
  have hec : a_heightOf (nI b).toNatClampNeg = nI n := by rw [nI_clamp (by omega)]; exact he
  intro d
  induction d with
  | zero =>
    intro h fuel hd hf
    obtain ⟨fuel, rfl⟩ : ∃ q, fuel = q + 1 := ⟨fuel - 1, by omega⟩
    obtain rfl : h = n + 1 := by omega
    rw [pd_T_n]
    exact ⟨pk_in b 32 (by omega), br_t (by rw [hec]; exact nI_lt (by omega) (by omega)) H⟩
  | succ d ih =>
    intro h fuel hd hf
    obtain ⟨fuel, rfl⟩ : ∃ q, fuel = q + 1 := ⟨fuel - 1, by omega⟩
    refine ⟨pk_in b 32 (by omega), pk_lt n h (fun z => by omega) (fun z => ⟨pk_in h 32 (by omega), ?_⟩) hec⟩
    rw [pk_cl h, hl h (by omega)]
    refine xm_layBlk w (pd_anc_of w hb he hn (n - h) (by omega)).1 _ ?_
    rw [pd_T_s _ _ _ _ (by omega)]
    exact nm_r (nI_1 h) (ih (h + 1) fuel (by omega) (by omega))
theorem xm_lc59 {made blocks b n : Nat} (w : pd_wf (a_tokenCount, a_tokenOp, a_tokenValue, a_inputCount, a_inputCoin, a_inputA, a_inputB, a_outputCount, a_outputAmount, a_outputScript, a_parentOf, a_heightOf, a_rewardScript, a_blockSize, a_blockTransaction, a_feeOf, a_rewardAmount) made blocks) (hb : b < blocks) (he : a_heightOf b = nI n) (hn : n < 32) {post : SX → Prop} (H : ∀ laid : Nat → Int32, (∀ h, h ≤ n → laid h = nI (pd_anc (a_tokenCount, a_tokenOp, a_tokenValue, a_inputCount, a_inputCoin, a_inputA, a_inputB, a_outputCount, a_outputAmount, a_outputScript, a_parentOf, a_heightOf, a_rewardScript, a_blockSize, a_blockTransaction, a_feeOf, a_rewardAmount) b (n - h))) → post (f_stackSize, f_transactions, f_putCount, f_blocks, f_tip, f_poolCount, f_queueCount, a_tokenCount, a_tokenOp, a_tokenValue, a_scriptInUse, a_stack, a_inputCount, a_inputCoin, a_inputA, a_inputB, a_outputCount, a_outputAmount, a_outputScript, a_feeOf, a_putRow, a_parentOf, a_heightOf, a_chainWork, a_blockState, a_rewardAmount, a_rewardScript, a_blockSize, a_blockTransaction, laid, (pd_lay (a_tokenCount, a_tokenOp, a_tokenValue, a_inputCount, a_inputCoin, a_inputA, a_inputB, a_outputCount, a_outputAmount, a_outputScript, a_parentOf, a_heightOf, a_rewardScript, a_blockSize, a_blockTransaction, a_feeOf, a_rewardAmount) n b).1, (pd_lay (a_tokenCount, a_tokenOp, a_tokenValue, a_inputCount, a_inputCoin, a_inputA, a_inputB, a_outputCount, a_outputAmount, a_outputScript, a_parentOf, a_heightOf, a_rewardScript, a_blockSize, a_blockTransaction, a_feeOf, a_rewardAmount) n b).2.1, (pd_lay (a_tokenCount, a_tokenOp, a_tokenValue, a_inputCount, a_inputCoin, a_inputA, a_inputB, a_outputCount, a_outputAmount, a_outputScript, a_parentOf, a_heightOf, a_rewardScript, a_blockSize, a_blockTransaction, a_feeOf, a_rewardAmount) n b).2.2, a_poolRow, a_marked, a_queue)) :
    ∀ (r k fuel : Nat) (laid : Nat → Int32) (x : Int32), k + r = n + 1 → r < fuel → (∀ j, j < k → laid (n - j) = nI (pd_anc (a_tokenCount, a_tokenOp, a_tokenValue, a_inputCount, a_inputCoin, a_inputA, a_inputB, a_outputCount, a_outputAmount, a_outputScript, a_parentOf, a_heightOf, a_rewardScript, a_blockSize, a_blockTransaction, a_feeOf, a_rewardAmount) b j)) → (0 < r → x = nI (pd_anc (a_tokenCount, a_tokenOp, a_tokenValue, a_inputCount, a_inputCoin, a_inputA, a_inputB, a_outputCount, a_outputAmount, a_outputScript, a_parentOf, a_heightOf, a_rewardScript, a_blockSize, a_blockTransaction, a_feeOf, a_rewardAmount) b k)) → wX_layChain_59 post (nI b) f_stackSize f_transactions f_putCount f_blocks f_tip f_poolCount f_queueCount fuel x (nI r + (-1)) a_tokenCount a_tokenOp a_tokenValue a_scriptInUse a_stack a_inputCount a_inputCoin a_inputA a_inputB a_outputCount a_outputAmount a_outputScript a_feeOf a_putRow a_parentOf a_heightOf a_chainWork a_blockState a_rewardAmount a_rewardScript a_blockSize a_blockTransaction laid pd_S0.1 pd_S0.2.1 pd_S0.2.2 a_poolRow a_marked a_queue := by
  have hbk := w.2.1
  intro r
  induction r with
  | zero =>
    intro k fuel laid x hk hf hl hx
    obtain ⟨fuel, rfl⟩ : ∃ q, fuel = q + 1 := ⟨fuel - 1, by omega⟩
    refine br_t (by decide) ⟨n + 2, ?_⟩
    have hl' : ∀ h, h ≤ n → laid h = nI (pd_anc (a_tokenCount, a_tokenOp, a_tokenValue, a_inputCount, a_inputCoin, a_inputA, a_inputB, a_outputCount, a_outputAmount, a_outputScript, a_parentOf, a_heightOf, a_rewardScript, a_blockSize, a_blockTransaction, a_feeOf, a_rewardAmount) b (n - h)) := fun h hh => by
      have := hl (n - h) (by omega)
      rw [show n - (n - h) = h by omega] at this; exact this
    exact xm_lc85 w hb he hn hl' (H laid hl') (n + 1) 0 (n + 2) (by omega) (by omega)
  | succ r ih =>
    intro k fuel laid x hk hf hl hx
    obtain ⟨fuel, rfl⟩ : ∃ q, fuel = q + 1 := ⟨fuel - 1, by omega⟩
    obtain rfl := hx (by omega)
    have ha := pd_anc_of w hb he hn k (by omega)
    rw [pk_m1]
    refine br_f (nI_pos (by omega)) ⟨pk_in r 32 (by omega), nm_r (by rw [pk_cl r]) ⟨pk_in (pd_anc (a_tokenCount, a_tokenOp, a_tokenValue, a_inputCount, a_inputCoin, a_inputA, a_inputB, a_outputCount, a_outputAmount, a_outputScript, a_parentOf, a_heightOf, a_rewardScript, a_blockSize, a_blockTransaction, a_feeOf, a_rewardAmount) b k) 32 (by omega), nm_e (nm_e (ih (k + 1) fuel _ _ (by omega) (by omega) (fun j hj => ?_) (fun hr => ?_)))⟩⟩
    · by_cases e : j = k
      · subst e
        rw [show n - j = r by omega, pk_us]
      · rw [pk_un (by omega)]; exact hl j (by omega)
    · obtain ⟨p, q1, q2, q3, q4⟩ := pd_par w ha.1 (n := n - k - 1) (by rw [ha.2]; exact congrArg nI (by omega)) (by omega)
      rw [pk_cl (pd_anc (a_tokenCount, a_tokenOp, a_tokenValue, a_inputCount, a_inputCoin, a_inputA, a_inputB, a_outputCount, a_outputAmount, a_outputScript, a_parentOf, a_heightOf, a_rewardScript, a_blockSize, a_blockTransaction, a_feeOf, a_rewardAmount) b k), pd_anc, q3]
      exact q2
theorem xm_layChain {made blocks b n : Nat} (w : pd_wf (a_tokenCount, a_tokenOp, a_tokenValue, a_inputCount, a_inputCoin, a_inputA, a_inputB, a_outputCount, a_outputAmount, a_outputScript, a_parentOf, a_heightOf, a_rewardScript, a_blockSize, a_blockTransaction, a_feeOf, a_rewardAmount) made blocks) (hb : b < blocks) (he : a_heightOf b = nI n) (hn : n < 32) (S : pd_S) (hS : pd_out S) {post : SX → Prop} (H : ∀ laid : Nat → Int32, (∀ h, h ≤ n → laid h = nI (pd_anc (a_tokenCount, a_tokenOp, a_tokenValue, a_inputCount, a_inputCoin, a_inputA, a_inputB, a_outputCount, a_outputAmount, a_outputScript, a_parentOf, a_heightOf, a_rewardScript, a_blockSize, a_blockTransaction, a_feeOf, a_rewardAmount) b (n - h))) → post (f_stackSize, f_transactions, f_putCount, f_blocks, f_tip, f_poolCount, f_queueCount, a_tokenCount, a_tokenOp, a_tokenValue, a_scriptInUse, a_stack, a_inputCount, a_inputCoin, a_inputA, a_inputB, a_outputCount, a_outputAmount, a_outputScript, a_feeOf, a_putRow, a_parentOf, a_heightOf, a_chainWork, a_blockState, a_rewardAmount, a_rewardScript, a_blockSize, a_blockTransaction, laid, (pd_lay (a_tokenCount, a_tokenOp, a_tokenValue, a_inputCount, a_inputCoin, a_inputA, a_inputB, a_outputCount, a_outputAmount, a_outputScript, a_parentOf, a_heightOf, a_rewardScript, a_blockSize, a_blockTransaction, a_feeOf, a_rewardAmount) n b).1, (pd_lay (a_tokenCount, a_tokenOp, a_tokenValue, a_inputCount, a_inputCoin, a_inputA, a_inputB, a_outputCount, a_outputAmount, a_outputScript, a_parentOf, a_heightOf, a_rewardScript, a_blockSize, a_blockTransaction, a_feeOf, a_rewardAmount) n b).2.1, (pd_lay (a_tokenCount, a_tokenOp, a_tokenValue, a_inputCount, a_inputCoin, a_inputA, a_inputB, a_outputCount, a_outputAmount, a_outputScript, a_parentOf, a_heightOf, a_rewardScript, a_blockSize, a_blockTransaction, a_feeOf, a_rewardAmount) n b).2.2, a_poolRow, a_marked, a_queue)) : wpX_layChain post (f_stackSize, f_transactions, f_putCount, f_blocks, f_tip, f_poolCount, f_queueCount, a_tokenCount, a_tokenOp, a_tokenValue, a_scriptInUse, a_stack, a_inputCount, a_inputCoin, a_inputA, a_inputB, a_outputCount, a_outputAmount, a_outputScript, a_feeOf, a_putRow, a_parentOf, a_heightOf, a_chainWork, a_blockState, a_rewardAmount, a_rewardScript, a_blockSize, a_blockTransaction, a_laidBlock, S.1, S.2.1, S.2.2, a_poolRow, a_marked, a_queue) (nI b) := by
  have hbk := w.2.1
  have hec : a_heightOf (nI b).toNatClampNeg = nI n := by rw [nI_clamp (by omega)]; exact he
  have L59 := xm_lc59 w hb he hn H (n + 1) 0 (n + 2) a_laidBlock (nI b) (by omega) (by omega) (fun j hj => by omega) (fun _ => rfl)
  rw [pk_m1, ← pd_reset_S hS] at L59
  have L31 : ∀ (d i fuel : Nat), i + d = 40 → d < fuel → wX_layChain_31 post (nI b) f_stackSize f_transactions f_putCount f_blocks f_tip f_poolCount f_queueCount fuel (nI i) a_tokenCount a_tokenOp a_tokenValue a_scriptInUse a_stack a_inputCount a_inputCoin a_inputA a_inputB a_outputCount a_outputAmount a_outputScript a_feeOf a_putRow a_parentOf a_heightOf a_chainWork a_blockState a_rewardAmount a_rewardScript a_blockSize a_blockTransaction a_laidBlock (pd_reset S.1 152 (-1)) (pd_reset S.2.1 152 0) (pd_reset S.2.2 i (-1)) a_poolRow a_marked a_queue := by
    intro d
    induction d with
    | zero =>
      intro i fuel hd hf
      obtain ⟨fuel, rfl⟩ : ∃ q, fuel = q + 1 := ⟨fuel - 1, by omega⟩
      obtain rfl : i = 40 := by omega
      exact br_t (by decide) ⟨pk_in b 32 (by omega), nm_r hec ⟨n + 2, L59⟩⟩
    | succ d ih =>
      intro i fuel hd hf
      obtain ⟨fuel, rfl⟩ : ∃ q, fuel = q + 1 := ⟨fuel - 1, by omega⟩
      refine pk_le 40 i (fun z => by omega) (fun z => ⟨pk_in i 40 (by omega), nm_r (by rw [pk_cl i, ← pd_reset_s]) (nm_r (nI_1 i) (ih (i + 1) fuel (by omega) (by omega)))⟩)
  have L2 : ∀ (d i fuel : Nat), i + d = 152 → d < fuel → wX_layChain_2 post (nI b) f_stackSize f_transactions f_putCount f_blocks f_tip f_poolCount f_queueCount fuel (nI i) a_tokenCount a_tokenOp a_tokenValue a_scriptInUse a_stack a_inputCount a_inputCoin a_inputA a_inputB a_outputCount a_outputAmount a_outputScript a_feeOf a_putRow a_parentOf a_heightOf a_chainWork a_blockState a_rewardAmount a_rewardScript a_blockSize a_blockTransaction a_laidBlock (pd_reset S.1 i (-1)) (pd_reset S.2.1 i 0) S.2.2 a_poolRow a_marked a_queue := by
    intro d
    induction d with
    | zero =>
      intro i fuel hd hf
      obtain ⟨fuel, rfl⟩ : ∃ q, fuel = q + 1 := ⟨fuel - 1, by omega⟩
      obtain rfl : i = 152 := by omega
      have := L31 40 0 41 (by omega) (by omega)
      rw [pd_reset_0] at this
      exact br_t (by decide) ⟨41, this⟩
    | succ d ih =>
      intro i fuel hd hf
      obtain ⟨fuel, rfl⟩ : ∃ q, fuel = q + 1 := ⟨fuel - 1, by omega⟩
      refine pk_le 152 i (fun z => by omega) (fun z => ⟨pk_in i 152 (by omega), nm_r (by rw [pk_cl i, ← pd_reset_s]) ⟨pk_in i 152 (by omega), nm_r (by rw [pk_cl i, xb_0, ← pd_reset_s]) (nm_r (nI_1 i) (ih (i + 1) fuel (by omega) (by omega)))⟩⟩)
  have := L2 152 0 153 (by omega) (by omega)
  rw [pd_reset_0, pd_reset_0] at this
  exact ⟨153, this⟩
end
/-! may a transaction be spent: P c says that coin c counts as made now -/
noncomputable def pd_from (S : pd_S) (h : Int32) (c : Nat) (P : Prop) : Int32 := @ite _ P (Classical.propDecidable P) h (S.1 c)
theorem pd_from_t {S : pd_S} {h : Int32} {c : Nat} {P : Prop} (p : P) : pd_from S h c P = h := @if_pos _ (Classical.propDecidable P) p _ _ _
theorem pd_from_f {S : pd_S} {h : Int32} {c : Nat} {P : Prop} (p : ¬ P) : pd_from S h c P = S.1 c := @if_neg _ (Classical.propDecidable P) p _ _ _
def pd_okG (D : pd_D) (S : pd_S) (h : Int32) (p : Nat) (g : Int32) : Prop :=
  0 ≤ g ∧ S.2.1 (pd_co D p).toNatClampNeg = 0 ∧ (120 ≤ (pd_co D p).toNatClampNeg → 2 ≤ h - g) ∧ pd_fit D (pd_co D p).toNatClampNeg (pd_ia D p) (pd_ib D p) h g
def pd_may (D : pd_D) (S : pd_S) (h : Int32) (P : Nat → Prop) (t : Nat) : Prop :=
  (∀ i, i < (pd_ic D t).toNatClampNeg → pd_okG D S h (3 * t + i) (pd_from S h (pd_co D (3 * t + i)).toNatClampNeg (P (pd_co D (3 * t + i)).toNatClampNeg))) ∧ 0 ≤ pd_fe D t
theorem pd_may_ok {D : pd_D} {S : pd_S} {h : Int32} {t : Nat} : (S.2.2 t < 0 ∧ pd_may D S h (fun _ => False) t) ↔ pd_okTx D S t h := by
  unfold pd_may pd_okTx
  refine and_congr_right fun _ => and_congr (forall_congr' fun i => imp_congr_right fun hi => ?_) Iff.rfl
  rw [pd_from_f (fun z => z)]
  exact Iff.rfl
section
variable {f_stackSize f_transactions f_putCount f_blocks f_tip f_poolCount f_queueCount : Int32} {a_tokenCount a_tokenOp a_tokenValue a_scriptInUse a_stack a_inputCount a_inputCoin a_inputA a_inputB a_outputCount a_outputAmount a_outputScript a_feeOf a_putRow a_parentOf a_heightOf a_chainWork a_blockState a_rewardAmount a_rewardScript a_blockSize a_blockTransaction a_laidBlock a_coinHeight a_coinSpent a_transactionHeight a_poolRow a_marked a_queue : Nat → Int32}
theorem xm_inPool {np : Nat} (hnp : np ≤ 12) (ep : f_poolCount = nI np) {x : Int32} {post : Int32 → Prop} (H1 : (∃ k, k < np ∧ a_poolRow k = x) → post 1) (H0 : ¬ (∃ k, k < np ∧ a_poolRow k = x) → post 0) : wpX_isInPool post (f_stackSize, f_transactions, f_putCount, f_blocks, f_tip, f_poolCount, f_queueCount, a_tokenCount, a_tokenOp, a_tokenValue, a_scriptInUse, a_stack, a_inputCount, a_inputCoin, a_inputA, a_inputB, a_outputCount, a_outputAmount, a_outputScript, a_feeOf, a_putRow, a_parentOf, a_heightOf, a_chainWork, a_blockState, a_rewardAmount, a_rewardScript, a_blockSize, a_blockTransaction, a_laidBlock, a_coinHeight, a_coinSpent, a_transactionHeight, a_poolRow, a_marked, a_queue) x := by
  subst ep
  have key : ∀ (d i fuel : Nat), i + d = np → d < fuel → (∀ k, k < i → a_poolRow k ≠ x) → wX_isInPool_2 post x f_stackSize f_transactions f_putCount f_blocks f_tip (nI np) f_queueCount a_tokenCount a_tokenOp a_tokenValue a_scriptInUse a_stack a_inputCount a_inputCoin a_inputA a_inputB a_outputCount a_outputAmount a_outputScript a_feeOf a_putRow a_parentOf a_heightOf a_chainWork a_blockState a_rewardAmount a_rewardScript a_blockSize a_blockTransaction a_laidBlock a_coinHeight a_coinSpent a_transactionHeight a_poolRow a_marked a_queue fuel (nI i) := by
    intro d
    induction d with
    | zero =>
      intro i fuel hi hf hk
      obtain ⟨fuel, rfl⟩ : ∃ q, fuel = q + 1 := ⟨fuel - 1, by omega⟩
      obtain rfl : i = np := by omega
      exact br_t (nI_le (Nat.le_refl _) (by omega)) (H0 fun ⟨k, h1, h2⟩ => hk k h1 h2)
    | succ d ih =>
      intro i fuel hi hf hk
      obtain ⟨fuel, rfl⟩ : ∃ q, fuel = q + 1 := ⟨fuel - 1, by omega⟩
      refine pk_le np i (fun z => by omega) (fun z => ⟨pk_in i 12 (by omega), ?_⟩)
      rw [pk_cl i]
      refine br_c (fun q => H1 ⟨i, by omega, q⟩) (fun q => nm_r (nI_1 i) (ih (i + 1) fuel (by omega) (by omega) fun k hk' => ?_))
      by_cases e : k = i
      · rw [e]; exact q
      · exact hk k (by omega)
  exact ⟨np + 1, key np 0 (np + 1) (by omega) (by omega) (fun k hk => by omega)⟩
theorem xm_scriptOf {c : Nat} (hc : c < 152) {post : Int32 → Prop} (H : post (if c < 120 then a_outputScript c else a_rewardScript (c - 120))) : wpX_scriptOf post (f_stackSize, f_transactions, f_putCount, f_blocks, f_tip, f_poolCount, f_queueCount, a_tokenCount, a_tokenOp, a_tokenValue, a_scriptInUse, a_stack, a_inputCount, a_inputCoin, a_inputA, a_inputB, a_outputCount, a_outputAmount, a_outputScript, a_feeOf, a_putRow, a_parentOf, a_heightOf, a_chainWork, a_blockState, a_rewardAmount, a_rewardScript, a_blockSize, a_blockTransaction, a_laidBlock, a_coinHeight, a_coinSpent, a_transactionHeight, a_poolRow, a_marked, a_queue) (nI c) := by
  refine pk_le 120 c (fun h => ?_) (fun h => ?_)
  · have ex : nI c - 120 = nI (c - 120) := pk_sub (b := 120) h
    refine ⟨pk_in (c - 120) 32 (by omega) ex, ?_⟩
    rw [pk_cl (c - 120) ex]
    rw [if_neg (by omega)] at H; exact H
  · refine ⟨pk_in c 123 (by omega), ?_⟩
    rw [pk_cl c]
    rw [if_pos h] at H; exact H
theorem xm_amountOf {c : Nat} (hc : c < 152) {post : Int32 → Prop} (H : post (if c < 120 then a_outputAmount c else a_rewardAmount (c - 120))) : wpX_amountOf post (f_stackSize, f_transactions, f_putCount, f_blocks, f_tip, f_poolCount, f_queueCount, a_tokenCount, a_tokenOp, a_tokenValue, a_scriptInUse, a_stack, a_inputCount, a_inputCoin, a_inputA, a_inputB, a_outputCount, a_outputAmount, a_outputScript, a_feeOf, a_putRow, a_parentOf, a_heightOf, a_chainWork, a_blockState, a_rewardAmount, a_rewardScript, a_blockSize, a_blockTransaction, a_laidBlock, a_coinHeight, a_coinSpent, a_transactionHeight, a_poolRow, a_marked, a_queue) (nI c) := by
  refine pk_le 120 c (fun h => ?_) (fun h => ?_)
  · have ex : nI c - 120 = nI (c - 120) := pk_sub (b := 120) h
    refine ⟨pk_in (c - 120) 32 (by omega) ex, ?_⟩
    rw [pk_cl (c - 120) ex]
    rw [if_neg (by omega)] at H; exact H
  · refine ⟨pk_in c 123 (by omega), ?_⟩
    rw [pk_cl c]
    rw [if_pos h] at H; exact H
end
end
section
/-! X: maySpend, isValidOnParent -/
theorem pd_coin_mono {D : pd_D} {t made blocks c : Nat} (h : t ≤ made) (q : pd_coin D t blocks c) : pd_coin D made blocks c := by
  rcases q with ⟨q1, q2, q3⟩ | q
  · exact Or.inl ⟨q1, by omega, q3⟩
  · exact Or.inr q
theorem pd_sc_eq {D : pd_D} {made blocks c : Nat} (w : pd_wf D made blocks) (h : pd_coin D made blocks c) : pd_sc D c < 8 ∧ (c < 120 → pd_os D c = nI (pd_sc D c)) ∧ (120 ≤ c → pd_rs D (c - 120) = nI (pd_sc D c)) := by
  obtain ⟨w1, w2, w3, w4, wT, wB⟩ := w
  unfold pd_sc
  rcases h with ⟨h1, h2, h3⟩ | ⟨h1, h2⟩
  · rw [if_pos h1]
    obtain ⟨n, m, _, _, _, hm, _, em, _, _, ho⟩ := wT _ h2
    rw [pd_cl em (by omega)] at h3
    obtain ⟨s, hs, es⟩ := ho _ h3
    rw [show 3 * (c / 3) + c % 3 = c by omega] at es
    rw [pd_cl es (by omega)]
    exact ⟨hs, fun _ => es, fun z => by omega⟩
  · rw [if_neg (by omega)]
    obtain ⟨_, ⟨s, hs, es⟩, _⟩ := wB _ h2
    rw [pd_cl es (by omega)]
    exact ⟨hs, fun z => by omega, fun _ => es⟩
theorem xb_d3 {c : Nat} (h : c < 152) : nI c / 3 = nI (c / 3) := pk_div (d := 3) (by omega) (by omega) (by omega)
section
variable {f_stackSize f_transactions f_putCount f_blocks f_tip f_poolCount f_queueCount : Int32} {a_tokenCount a_tokenOp a_tokenValue a_scriptInUse a_stack a_inputCount a_inputCoin a_inputA a_inputB a_outputCount a_outputAmount a_outputScript a_feeOf a_putRow a_parentOf a_heightOf a_chainWork a_blockState a_rewardAmount a_rewardScript a_blockSize a_blockTransaction a_laidBlock a_coinHeight a_coinSpent a_transactionHeight a_poolRow a_marked a_queue : Nat → Int32}
theorem xm_may56 {made blocks p c : Nat} {h g fp x1 : Int32} (w : pd_wf (a_tokenCount, a_tokenOp, a_tokenValue, a_inputCount, a_inputCoin, a_inputA, a_inputB, a_outputCount, a_outputAmount, a_outputScript, a_parentOf, a_heightOf, a_rewardScript, a_blockSize, a_blockTransaction, a_feeOf, a_rewardAmount) made blocks) (tk : fx_tok a_tokenCount a_tokenOp a_tokenValue) (hp : p < 123) (hc : c < 152) (ec : a_inputCoin p = nI c) (hq : pd_coin (a_tokenCount, a_tokenOp, a_tokenValue, a_inputCount, a_inputCoin, a_inputA, a_inputB, a_outputCount, a_outputAmount, a_outputScript, a_parentOf, a_heightOf, a_rewardScript, a_blockSize, a_blockTransaction, a_feeOf, a_rewardAmount) made blocks c) {post : Int32 → SX → Prop} {J : Int32 → Int32 → Int32 → Int32 → Int32 → Int32 → Int32 → Int32 → (Nat → Int32) → (Nat → Int32) → (Nat → Int32) → (Nat → Int32) → (Nat → Int32) → (Nat → Int32) → (Nat → Int32) → (Nat → Int32) → (Nat → Int32) → (Nat → Int32) → (Nat → Int32) → (Nat → Int32) → (Nat → Int32) → (Nat → Int32) → (Nat → Int32) → (Nat → Int32) → (Nat → Int32) → (Nat → Int32) → (Nat → Int32) → (Nat → Int32) → (Nat → Int32) → (Nat → Int32) → (Nat → Int32) → (Nat → Int32) → (Nat → Int32) → (Nat → Int32) → (Nat → Int32) → (Nat → Int32) → (Nat → Int32) → Prop}
    (H0 : ¬ pd_okG (a_tokenCount, a_tokenOp, a_tokenValue, a_inputCount, a_inputCoin, a_inputA, a_inputB, a_outputCount, a_outputAmount, a_outputScript, a_parentOf, a_heightOf, a_rewardScript, a_blockSize, a_blockTransaction, a_feeOf, a_rewardAmount) (a_coinHeight, a_coinSpent, a_transactionHeight) h p g → ∀ ss st, post 0 (ss, f_transactions, f_putCount, f_blocks, f_tip, f_poolCount, f_queueCount, a_tokenCount, a_tokenOp, a_tokenValue, a_scriptInUse, st, a_inputCount, a_inputCoin, a_inputA, a_inputB, a_outputCount, a_outputAmount, a_outputScript, a_feeOf, a_putRow, a_parentOf, a_heightOf, a_chainWork, a_blockState, a_rewardAmount, a_rewardScript, a_blockSize, a_blockTransaction, a_laidBlock, a_coinHeight, a_coinSpent, a_transactionHeight, a_poolRow, a_marked, a_queue))
    (HJ : pd_okG (a_tokenCount, a_tokenOp, a_tokenValue, a_inputCount, a_inputCoin, a_inputA, a_inputB, a_outputCount, a_outputAmount, a_outputScript, a_parentOf, a_heightOf, a_rewardScript, a_blockSize, a_blockTransaction, a_feeOf, a_rewardAmount) (a_coinHeight, a_coinSpent, a_transactionHeight) h p g → ∀ ss st, J (nI (p + 1)) ss f_transactions f_putCount f_blocks f_tip f_poolCount f_queueCount a_tokenCount a_tokenOp a_tokenValue a_scriptInUse st a_inputCount a_inputCoin a_inputA a_inputB a_outputCount a_outputAmount a_outputScript a_feeOf a_putRow a_parentOf a_heightOf a_chainWork a_blockState a_rewardAmount a_rewardScript a_blockSize a_blockTransaction a_laidBlock a_coinHeight a_coinSpent a_transactionHeight a_poolRow a_marked a_queue) :
    wX_maySpend_56 post J x1 h fp (nI p) (nI c) g f_stackSize f_transactions f_putCount f_blocks f_tip f_poolCount f_queueCount a_tokenCount a_tokenOp a_tokenValue a_scriptInUse a_stack a_inputCount a_inputCoin a_inputA a_inputB a_outputCount a_outputAmount a_outputScript a_feeOf a_putRow a_parentOf a_heightOf a_chainWork a_blockState a_rewardAmount a_rewardScript a_blockSize a_blockTransaction a_laidBlock a_coinHeight a_coinSpent a_transactionHeight a_poolRow a_marked a_queue := by
  have ecc : (pd_co (a_tokenCount, a_tokenOp, a_tokenValue, a_inputCount, a_inputCoin, a_inputA, a_inputB, a_outputCount, a_outputAmount, a_outputScript, a_parentOf, a_heightOf, a_rewardScript, a_blockSize, a_blockTransaction, a_feeOf, a_rewardAmount) p).toNatClampNeg = c := pd_cl ec (by omega)
  obtain ⟨s8, so, sr⟩ := pd_sc_eq w hq
  have es : (if c < 120 then a_outputScript c else a_rewardScript (c - 120)) = nI (pd_sc (a_tokenCount, a_tokenOp, a_tokenValue, a_inputCount, a_inputCoin, a_inputA, a_inputB, a_outputCount, a_outputAmount, a_outputScript, a_parentOf, a_heightOf, a_rewardScript, a_blockSize, a_blockTransaction, a_feeOf, a_rewardAmount) c) := by
    by_cases z : c < 120
    · rw [if_pos z]; exact so z
    · rw [if_neg z]; exact sr (by omega)
  unfold pd_okG at H0 HJ
  rw [ecc] at H0 HJ
  have eia : a_inputA (nI p).toNatClampNeg = a_inputA p := by rw [pk_cl p]
  have eib : a_inputB (nI p).toNatClampNeg = a_inputB p := by rw [pk_cl p]
  have m90 : 0 ≤ g → a_coinSpent c = 0 → (120 ≤ c → 2 ≤ h - g) → wX_maySpend_90 post J x1 h fp (nI p) (nI c) g f_stackSize f_transactions f_putCount f_blocks f_tip f_poolCount f_queueCount a_tokenCount a_tokenOp a_tokenValue a_scriptInUse a_stack a_inputCount a_inputCoin a_inputA a_inputB a_outputCount a_outputAmount a_outputScript a_feeOf a_putRow a_parentOf a_heightOf a_chainWork a_blockState a_rewardAmount a_rewardScript a_blockSize a_blockTransaction a_laidBlock a_coinHeight a_coinSpent a_transactionHeight a_poolRow a_marked a_queue := by
    intro g0 g1 g2
    refine xm_scriptOf hc ?_
    rw [es, eia, eib]
    refine ⟨pk_in p 123 hp, pk_in p 123 hp, xm_fits s8 tk (fun hf ss st => ?_) (fun hf ss st => ?_)⟩
    · exact br_f (by decide) (nm_r (nI_1 p) (HJ ⟨g0, g1, g2, hf⟩ ss st))
    · exact br_t rfl (H0 (fun q => hf q.2.2.2) ss st)
  refine br_c (fun z => H0 (fun q => absurd q.1 (Int32.not_le.mpr z)) _ _) (fun z => ⟨pk_in c 152 hc, ?_⟩)
  rw [pk_cl c]
  have z' : 0 ≤ g := Int32.not_lt.mp z
  refine br_c (fun z1 => pk_lt c 120 (fun z2 => m90 z' z1 (fun q => by omega)) (fun z2 => br_c (fun z3 => m90 z' z1 (fun _ => z3)) (fun z3 => H0 (fun q => z3 (q.2.2.1 z2)) _ _))) (fun z1 => H0 (fun q => z1 q.2.1) _ _)
theorem xm_may {made blocks t np : Nat} {h fp : Int32} (w : pd_wf (a_tokenCount, a_tokenOp, a_tokenValue, a_inputCount, a_inputCoin, a_inputA, a_inputB, a_outputCount, a_outputAmount, a_outputScript, a_parentOf, a_heightOf, a_rewardScript, a_blockSize, a_blockTransaction, a_feeOf, a_rewardAmount) made blocks) (tk : fx_tok a_tokenCount a_tokenOp a_tokenValue) (ht : t < made) (hnp : np ≤ 12) (ep : f_poolCount = nI np) (P : Nat → Prop) (hP0 : fp = 0 → ∀ c, ¬ P c) (hP1 : ¬ fp = 0 → ∀ c, c < 152 → (P c ↔ ∃ k, k < np ∧ a_poolRow k = nI (c / 3))) {post : Int32 → SX → Prop}
    (H1 : pd_may (a_tokenCount, a_tokenOp, a_tokenValue, a_inputCount, a_inputCoin, a_inputA, a_inputB, a_outputCount, a_outputAmount, a_outputScript, a_parentOf, a_heightOf, a_rewardScript, a_blockSize, a_blockTransaction, a_feeOf, a_rewardAmount) (a_coinHeight, a_coinSpent, a_transactionHeight) h P t → ∀ ss st, post 1 (ss, f_transactions, f_putCount, f_blocks, f_tip, f_poolCount, f_queueCount, a_tokenCount, a_tokenOp, a_tokenValue, a_scriptInUse, st, a_inputCount, a_inputCoin, a_inputA, a_inputB, a_outputCount, a_outputAmount, a_outputScript, a_feeOf, a_putRow, a_parentOf, a_heightOf, a_chainWork, a_blockState, a_rewardAmount, a_rewardScript, a_blockSize, a_blockTransaction, a_laidBlock, a_coinHeight, a_coinSpent, a_transactionHeight, a_poolRow, a_marked, a_queue))
    (H0 : ¬ pd_may (a_tokenCount, a_tokenOp, a_tokenValue, a_inputCount, a_inputCoin, a_inputA, a_inputB, a_outputCount, a_outputAmount, a_outputScript, a_parentOf, a_heightOf, a_rewardScript, a_blockSize, a_blockTransaction, a_feeOf, a_rewardAmount) (a_coinHeight, a_coinSpent, a_transactionHeight) h P t → ∀ ss st, post 0 (ss, f_transactions, f_putCount, f_blocks, f_tip, f_poolCount, f_queueCount, a_tokenCount, a_tokenOp, a_tokenValue, a_scriptInUse, st, a_inputCount, a_inputCoin, a_inputA, a_inputB, a_outputCount, a_outputAmount, a_outputScript, a_feeOf, a_putRow, a_parentOf, a_heightOf, a_chainWork, a_blockState, a_rewardAmount, a_rewardScript, a_blockSize, a_blockTransaction, a_laidBlock, a_coinHeight, a_coinSpent, a_transactionHeight, a_poolRow, a_marked, a_queue)) :
    wpX_maySpend post (f_stackSize, f_transactions, f_putCount, f_blocks, f_tip, f_poolCount, f_queueCount, a_tokenCount, a_tokenOp, a_tokenValue, a_scriptInUse, a_stack, a_inputCount, a_inputCoin, a_inputA, a_inputB, a_outputCount, a_outputAmount, a_outputScript, a_feeOf, a_putRow, a_parentOf, a_heightOf, a_chainWork, a_blockState, a_rewardAmount, a_rewardScript, a_blockSize, a_blockTransaction, a_laidBlock, a_coinHeight, a_coinSpent, a_transactionHeight, a_poolRow, a_marked, a_queue) (nI t) h fp := by
  have hm := w.2.2.1
  obtain ⟨n, m, _, hn, _, hm3, en, em, hc, _⟩ := w.2.2.2.2.1 _ ht
  have en' : a_inputCount t = nI n := en
  have enc : (pd_ic (a_tokenCount, a_tokenOp, a_tokenValue, a_inputCount, a_inputCoin, a_inputA, a_inputB, a_outputCount, a_outputAmount, a_outputScript, a_parentOf, a_heightOf, a_rewardScript, a_blockSize, a_blockTransaction, a_feeOf, a_rewardAmount) t).toNatClampNeg = n := pd_cl en (by omega)
  have e3 : nI t * 3 + a_inputCount (nI t).toNatClampNeg = nI (3 * t + n) := by rw [pk_cl t, en']; exact xb_3 t n
  unfold pd_may at H1 H0
  rw [enc] at H1 H0
  have key : ∀ (d i fuel : Nat) (ss : Int32) (st : Nat → Int32), i + d = n → d < fuel → (∀ j, j < i → pd_okG (a_tokenCount, a_tokenOp, a_tokenValue, a_inputCount, a_inputCoin, a_inputA, a_inputB, a_outputCount, a_outputAmount, a_outputScript, a_parentOf, a_heightOf, a_rewardScript, a_blockSize, a_blockTransaction, a_feeOf, a_rewardAmount) (a_coinHeight, a_coinSpent, a_transactionHeight) h (3 * t + j) (pd_from (a_coinHeight, a_coinSpent, a_transactionHeight) h (pd_co (a_tokenCount, a_tokenOp, a_tokenValue, a_inputCount, a_inputCoin, a_inputA, a_inputB, a_outputCount, a_outputAmount, a_outputScript, a_parentOf, a_heightOf, a_rewardScript, a_blockSize, a_blockTransaction, a_feeOf, a_rewardAmount) (3 * t + j)).toNatClampNeg (P (pd_co (a_tokenCount, a_tokenOp, a_tokenValue, a_inputCount, a_inputCoin, a_inputA, a_inputB, a_outputCount, a_outputAmount, a_outputScript, a_parentOf, a_heightOf, a_rewardScript, a_blockSize, a_blockTransaction, a_feeOf, a_rewardAmount) (3 * t + j)).toNatClampNeg))) → wX_maySpend_5 post (nI t) h fp fuel (nI (3 * t + i)) ss f_transactions f_putCount f_blocks f_tip f_poolCount f_queueCount a_tokenCount a_tokenOp a_tokenValue a_scriptInUse st a_inputCount a_inputCoin a_inputA a_inputB a_outputCount a_outputAmount a_outputScript a_feeOf a_putRow a_parentOf a_heightOf a_chainWork a_blockState a_rewardAmount a_rewardScript a_blockSize a_blockTransaction a_laidBlock a_coinHeight a_coinSpent a_transactionHeight a_poolRow a_marked a_queue := by
    intro d
    induction d with
    | zero =>
      intro i fuel ss st hi hf hj
      obtain ⟨fuel, rfl⟩ : ∃ q, fuel = q + 1 := ⟨fuel - 1, by omega⟩
      obtain rfl : i = n := by omega
      refine ⟨pk_in t 41 (by omega), br_t (by rw [e3]; exact nI_le (Nat.le_refl _) (by omega)) ⟨pk_in t 40 (by omega), ?_⟩⟩
      rw [pk_cl t]
      exact br_c (fun z => H0 (fun q => absurd q.2 (Int32.not_le.mpr z)) _ _) (fun z => H1 ⟨hj, Int32.not_lt.mp z⟩ _ _)
    | succ d ih =>
      intro i fuel ss st hi hf hj
      obtain ⟨fuel, rfl⟩ : ∃ q, fuel = q + 1 := ⟨fuel - 1, by omega⟩
      obtain ⟨c, hc1, hc2, hc3⟩ := hc i (by omega)
      have hq := pd_coin_mono (Nat.le_of_lt ht) hc3
      have ecc : (pd_co (a_tokenCount, a_tokenOp, a_tokenValue, a_inputCount, a_inputCoin, a_inputA, a_inputB, a_outputCount, a_outputAmount, a_outputScript, a_parentOf, a_heightOf, a_rewardScript, a_blockSize, a_blockTransaction, a_feeOf, a_rewardAmount) (3 * t + i)).toNatClampNeg = c := pd_cl hc2 (by omega)
      have step : ∀ g, g = pd_from (a_coinHeight, a_coinSpent, a_transactionHeight) h c (P c) → wX_maySpend_56 post (wX_maySpend_5 post (nI t) h fp fuel) (nI t) h fp (nI (3 * t + i)) (nI c) g ss f_transactions f_putCount f_blocks f_tip f_poolCount f_queueCount a_tokenCount a_tokenOp a_tokenValue a_scriptInUse st a_inputCount a_inputCoin a_inputA a_inputB a_outputCount a_outputAmount a_outputScript a_feeOf a_putRow a_parentOf a_heightOf a_chainWork a_blockState a_rewardAmount a_rewardScript a_blockSize a_blockTransaction a_laidBlock a_coinHeight a_coinSpent a_transactionHeight a_poolRow a_marked a_queue := by
        intro g eg
        refine xm_may56 w tk (by omega) hc1 hc2 hq (fun hno ss' st' => H0 (fun q => hno ?_) ss' st') (fun hyes ss' st' => ?_)
        · have := q.1 i (by omega)
          rw [ecc] at this
          rw [eg]; exact this
        · refine ih (i + 1) fuel ss' st' (by omega) (by omega) fun j hj' => ?_
          by_cases e : j = i
          · subst e
            rw [ecc]
            rw [eg] at hyes; exact hyes
          · exact hj j (by omega)
      refine ⟨pk_in t 41 (by omega), pk_le (3 * t + n) (3 * t + i) (fun z => by omega) (fun z => ⟨pk_in (3 * t + i) 123 (by omega), nm_r ((congrArg a_inputCoin (pk_cl (3 * t + i))).trans hc2) ⟨pk_in c 152 hc1, nm_r (congrArg a_coinHeight (pk_cl c)) ?_⟩⟩) e3⟩
      refine br_c (fun z0 => step _ (pd_from_f (S := (a_coinHeight, a_coinSpent, a_transactionHeight)) (hP0 z0 c)).symm) (fun z0 => ⟨by decide, ?_⟩)
      rw [xb_d3 hc1]
      refine xm_inPool hnp ep (fun hin => br_f (by decide) (step _ (pd_from_t ((hP1 z0 c hc1).mpr hin)).symm)) (fun hin => br_t rfl (step _ (pd_from_f (S := (a_coinHeight, a_coinSpent, a_transactionHeight)) fun q => hin ((hP1 z0 c hc1).mp q)).symm))
  have e30 : nI t * 3 = nI (3 * t + 0) := by rw [show (3 : Int32) = nI 3 from rfl, pk_mul, Nat.mul_comm]; rfl
  exact nm_r e30 ⟨n + 1, key n 0 (n + 1) _ _ (by omega) (by omega) (fun j hj => by omega)⟩
theorem xm_ivp29 {made blocks b : Nat} (w : pd_wf (a_tokenCount, a_tokenOp, a_tokenValue, a_inputCount, a_inputCoin, a_inputA, a_inputB, a_outputCount, a_outputAmount, a_outputScript, a_parentOf, a_heightOf, a_rewardScript, a_blockSize, a_blockTransaction, a_feeOf, a_rewardAmount) made blocks) (tk : fx_tok a_tokenCount a_tokenOp a_tokenValue) (hb : b < blocks) {np : Nat} (hnp : np ≤ 12) (ep : f_poolCount = nI np) (S : pd_S) (I : pd_inv (a_tokenCount, a_tokenOp, a_tokenValue, a_inputCount, a_inputCoin, a_inputA, a_inputB, a_outputCount, a_outputAmount, a_outputScript, a_parentOf, a_heightOf, a_rewardScript, a_blockSize, a_blockTransaction, a_feeOf, a_rewardAmount) made blocks S) {post : Int32 → SX → Prop}
    (H1 : pd_okTxs (a_tokenCount, a_tokenOp, a_tokenValue, a_inputCount, a_inputCoin, a_inputA, a_inputB, a_outputCount, a_outputAmount, a_outputScript, a_parentOf, a_heightOf, a_rewardScript, a_blockSize, a_blockTransaction, a_feeOf, a_rewardAmount) b (a_heightOf b) (a_blockSize b).toNatClampNeg S → ∀ S' ss st, pd_out S' → post 1 (ss, f_transactions, f_putCount, f_blocks, f_tip, f_poolCount, f_queueCount, a_tokenCount, a_tokenOp, a_tokenValue, a_scriptInUse, st, a_inputCount, a_inputCoin, a_inputA, a_inputB, a_outputCount, a_outputAmount, a_outputScript, a_feeOf, a_putRow, a_parentOf, a_heightOf, a_chainWork, a_blockState, a_rewardAmount, a_rewardScript, a_blockSize, a_blockTransaction, a_laidBlock, (S').1, (S').2.1, (S').2.2, a_poolRow, a_marked, a_queue))
    (H0 : ¬ pd_okTxs (a_tokenCount, a_tokenOp, a_tokenValue, a_inputCount, a_inputCoin, a_inputA, a_inputB, a_outputCount, a_outputAmount, a_outputScript, a_parentOf, a_heightOf, a_rewardScript, a_blockSize, a_blockTransaction, a_feeOf, a_rewardAmount) b (a_heightOf b) (a_blockSize b).toNatClampNeg S → ∀ S' ss st, pd_out S' → post 0 (ss, f_transactions, f_putCount, f_blocks, f_tip, f_poolCount, f_queueCount, a_tokenCount, a_tokenOp, a_tokenValue, a_scriptInUse, st, a_inputCount, a_inputCoin, a_inputA, a_inputB, a_outputCount, a_outputAmount, a_outputScript, a_feeOf, a_putRow, a_parentOf, a_heightOf, a_chainWork, a_blockState, a_rewardAmount, a_rewardScript, a_blockSize, a_blockTransaction, a_laidBlock, (S').1, (S').2.1, (S').2.2, a_poolRow, a_marked, a_queue)) :
    ∃ fuel, wX_isValidOnParent_29 post (nI b) fuel 0 f_stackSize f_transactions f_putCount f_blocks f_tip f_poolCount f_queueCount a_tokenCount a_tokenOp a_tokenValue a_scriptInUse a_stack a_inputCount a_inputCoin a_inputA a_inputB a_outputCount a_outputAmount a_outputScript a_feeOf a_putRow a_parentOf a_heightOf a_chainWork a_blockState a_rewardAmount a_rewardScript a_blockSize a_blockTransaction a_laidBlock S.1 S.2.1 S.2.2 a_poolRow a_marked a_queue := by
  have hbk := w.2.1
  have hm := w.2.2.1
  obtain ⟨hh, _, hh2, eh⟩ := pd_he_of w hb
  have hpos : 0 ≤ pd_he (a_tokenCount, a_tokenOp, a_tokenValue, a_inputCount, a_inputCoin, a_inputA, a_inputB, a_outputCount, a_outputAmount, a_outputScript, a_parentOf, a_heightOf, a_rewardScript, a_blockSize, a_blockTransaction, a_feeOf, a_rewardAmount) b := by rw [eh]; exact nI_pos' (by omega)
  obtain ⟨_, _, ⟨n, hn, en, _⟩, _⟩ := w.2.2.2.2.2 _ hb
  have enc : a_blockSize (nI b).toNatClampNeg = nI n := by rw [nI_clamp (by omega)]; exact en
  have ebs : (a_blockSize b).toNatClampNeg = n := pd_cl en (by omega)
  have ehc : a_heightOf (nI b).toNatClampNeg = a_heightOf b := by rw [nI_clamp (by omega)]
  rw [ebs] at H1 H0
  have fall : ∀ i, i < n → ¬ pd_okTx (a_tokenCount, a_tokenOp, a_tokenValue, a_inputCount, a_inputCoin, a_inputA, a_inputB, a_outputCount, a_outputAmount, a_outputScript, a_parentOf, a_heightOf, a_rewardScript, a_blockSize, a_blockTransaction, a_feeOf, a_rewardAmount) (pd_txs (a_tokenCount, a_tokenOp, a_tokenValue, a_inputCount, a_inputCoin, a_inputA, a_inputB, a_outputCount, a_outputAmount, a_outputScript, a_parentOf, a_heightOf, a_rewardScript, a_blockSize, a_blockTransaction, a_feeOf, a_rewardAmount) b (a_heightOf b) i S) (pd_bt (a_tokenCount, a_tokenOp, a_tokenValue, a_inputCount, a_inputCoin, a_inputA, a_inputB, a_outputCount, a_outputAmount, a_outputScript, a_parentOf, a_heightOf, a_rewardScript, a_blockSize, a_blockTransaction, a_feeOf, a_rewardAmount) (4 * b + i)).toNatClampNeg (a_heightOf b) → ¬ pd_okTxs (a_tokenCount, a_tokenOp, a_tokenValue, a_inputCount, a_inputCoin, a_inputA, a_inputB, a_outputCount, a_outputAmount, a_outputScript, a_parentOf, a_heightOf, a_rewardScript, a_blockSize, a_blockTransaction, a_feeOf, a_rewardAmount) b (a_heightOf b) n S := by
    intro i hi hno
    have : ∀ m, i < m → ¬ pd_okTxs (a_tokenCount, a_tokenOp, a_tokenValue, a_inputCount, a_inputCoin, a_inputA, a_inputB, a_outputCount, a_outputAmount, a_outputScript, a_parentOf, a_heightOf, a_rewardScript, a_blockSize, a_blockTransaction, a_feeOf, a_rewardAmount) b (a_heightOf b) m S := by
      intro m
      induction m with
      | zero => intro z; omega
      | succ m ih =>
        intro z q
        by_cases e : i = m
        · subst e; exact hno q.2
        · exact ih (by omega) q.1
    exact this n hi
  have key : ∀ (d i fuel : Nat) (ss : Int32) (st : Nat → Int32), i + d = n → d < fuel → pd_okTxs (a_tokenCount, a_tokenOp, a_tokenValue, a_inputCount, a_inputCoin, a_inputA, a_inputB, a_outputCount, a_outputAmount, a_outputScript, a_parentOf, a_heightOf, a_rewardScript, a_blockSize, a_blockTransaction, a_feeOf, a_rewardAmount) b (a_heightOf b) i S → wX_isValidOnParent_29 post (nI b) fuel (nI i) ss f_transactions f_putCount f_blocks f_tip f_poolCount f_queueCount a_tokenCount a_tokenOp a_tokenValue a_scriptInUse st a_inputCount a_inputCoin a_inputA a_inputB a_outputCount a_outputAmount a_outputScript a_feeOf a_putRow a_parentOf a_heightOf a_chainWork a_blockState a_rewardAmount a_rewardScript a_blockSize a_blockTransaction a_laidBlock ((pd_txs (a_tokenCount, a_tokenOp, a_tokenValue, a_inputCount, a_inputCoin, a_inputA, a_inputB, a_outputCount, a_outputAmount, a_outputScript, a_parentOf, a_heightOf, a_rewardScript, a_blockSize, a_blockTransaction, a_feeOf, a_rewardAmount) b (a_heightOf b) i S).1) ((pd_txs (a_tokenCount, a_tokenOp, a_tokenValue, a_inputCount, a_inputCoin, a_inputA, a_inputB, a_outputCount, a_outputAmount, a_outputScript, a_parentOf, a_heightOf, a_rewardScript, a_blockSize, a_blockTransaction, a_feeOf, a_rewardAmount) b (a_heightOf b) i S).2.1) ((pd_txs (a_tokenCount, a_tokenOp, a_tokenValue, a_inputCount, a_inputCoin, a_inputA, a_inputB, a_outputCount, a_outputAmount, a_outputScript, a_parentOf, a_heightOf, a_rewardScript, a_blockSize, a_blockTransaction, a_feeOf, a_rewardAmount) b (a_heightOf b) i S).2.2) a_poolRow a_marked a_queue := by
    intro d
    induction d with
    | zero =>
      intro i fuel ss st hi hf hok
      obtain ⟨fuel, rfl⟩ : ∃ q, fuel = q + 1 := ⟨fuel - 1, by omega⟩
      obtain rfl : i = n := by omega
      exact ⟨pk_in b 32 (by omega), br_t (by rw [enc]; exact nI_le (Nat.le_refl _) (by omega)) (H1 hok _ _ _ (pd_inv_out (pd_inv_txs w hb hpos I i (by show i ≤ (a_blockSize b).toNatClampNeg; omega))))⟩
    | succ d ih =>
      intro i fuel ss st hi hf hok
      obtain ⟨fuel, rfl⟩ : ∃ q, fuel = q + 1 := ⟨fuel - 1, by omega⟩
      obtain ⟨t, ht, et, etc⟩ := pd_bt_of w hb (i := i) (by show i < (a_blockSize b).toNatClampNeg; omega)
      have et' : a_blockTransaction (nI b * 4 + nI i).toNatClampNeg = nI t := by rw [pk_cl (4 * b + i) (xb_4 b i)]; exact et
      have ho : pd_out (pd_txs (a_tokenCount, a_tokenOp, a_tokenValue, a_inputCount, a_inputCoin, a_inputA, a_inputB, a_outputCount, a_outputAmount, a_outputScript, a_parentOf, a_heightOf, a_rewardScript, a_blockSize, a_blockTransaction, a_feeOf, a_rewardAmount) b (a_heightOf b) i S) := pd_inv_out (pd_inv_txs w hb hpos I i (by show i ≤ (a_blockSize b).toNatClampNeg; omega))
      have hf' := fall i (by omega)
      rw [etc] at hf'
      refine ⟨pk_in b 32 (by omega), pk_le n i (fun z => by omega) (fun z => ⟨pk_in (4 * b + i) 128 (by omega) (xb_4 b i), nm_r et' ⟨pk_in t 40 (by omega), ?_⟩⟩) enc⟩
      rw [pk_cl t]
      refine br_c (fun z0 => H0 (hf' fun q => absurd q.1 (Int32.not_lt.mpr z0)) _ _ _ ho) (fun z0 => ⟨pk_in b 32 (by omega), ?_⟩)
      rw [ehc]
      refine xm_may w tk ht hnp ep (fun _ => False) (fun _ _ z => z) (fun z => (z rfl).elim) (fun hyes ss' st' => ?_) (fun hno ss' st' => ?_)
      · refine br_f (by decide) ⟨pk_in b 32 (by omega), ?_⟩
        rw [ehc]
        refine xm_layTx w ht _ (nm_r (nI_1 i) ?_)
        have hok' : pd_okTxs (a_tokenCount, a_tokenOp, a_tokenValue, a_inputCount, a_inputCoin, a_inputA, a_inputB, a_outputCount, a_outputAmount, a_outputScript, a_parentOf, a_heightOf, a_rewardScript, a_blockSize, a_blockTransaction, a_feeOf, a_rewardAmount) b (a_heightOf b) (i + 1) S := ⟨hok, by rw [etc]; exact pd_may_ok.mp ⟨Int32.not_le.mp z0, hyes⟩⟩
        have := ih (i + 1) fuel ss' st' (by omega) (by omega) hok'
        rw [pd_txs, etc] at this
        exact this
      · exact br_t rfl (H0 (hf' fun q => hno (pd_may_ok.mpr q).2) _ _ _ ho)
  exact ⟨n + 1, key n 0 (n + 1) _ _ (by omega) (by omega) trivial⟩
theorem xm_ivp {made blocks b n : Nat} (w : pd_wf (a_tokenCount, a_tokenOp, a_tokenValue, a_inputCount, a_inputCoin, a_inputA, a_inputB, a_outputCount, a_outputAmount, a_outputScript, a_parentOf, a_heightOf, a_rewardScript, a_blockSize, a_blockTransaction, a_feeOf, a_rewardAmount) made blocks) (tk : fx_tok a_tokenCount a_tokenOp a_tokenValue) (hb : b < blocks) (he : a_heightOf b = nI (n + 1)) (hn : n + 1 < 32) {np : Nat} (hnp : np ≤ 12) (ep : f_poolCount = nI np) (S : pd_S) (hS : pd_out S)
    (hst : a_blockState (a_parentOf b).toNatClampNeg = 3 ↔ pd_valid (a_tokenCount, a_tokenOp, a_tokenValue, a_inputCount, a_inputCoin, a_inputA, a_inputB, a_outputCount, a_outputAmount, a_outputScript, a_parentOf, a_heightOf, a_rewardScript, a_blockSize, a_blockTransaction, a_feeOf, a_rewardAmount) n (a_parentOf b).toNatClampNeg) {post : Int32 → SX → Prop}
    (H1 : pd_valid (a_tokenCount, a_tokenOp, a_tokenValue, a_inputCount, a_inputCoin, a_inputA, a_inputB, a_outputCount, a_outputAmount, a_outputScript, a_parentOf, a_heightOf, a_rewardScript, a_blockSize, a_blockTransaction, a_feeOf, a_rewardAmount) (n + 1) b → ∀ S' ss st laid, pd_out S' → post 1 (ss, f_transactions, f_putCount, f_blocks, f_tip, f_poolCount, f_queueCount, a_tokenCount, a_tokenOp, a_tokenValue, a_scriptInUse, st, a_inputCount, a_inputCoin, a_inputA, a_inputB, a_outputCount, a_outputAmount, a_outputScript, a_feeOf, a_putRow, a_parentOf, a_heightOf, a_chainWork, a_blockState, a_rewardAmount, a_rewardScript, a_blockSize, a_blockTransaction, laid, (S').1, (S').2.1, (S').2.2, a_poolRow, a_marked, a_queue))
    (H0 : ¬ pd_valid (a_tokenCount, a_tokenOp, a_tokenValue, a_inputCount, a_inputCoin, a_inputA, a_inputB, a_outputCount, a_outputAmount, a_outputScript, a_parentOf, a_heightOf, a_rewardScript, a_blockSize, a_blockTransaction, a_feeOf, a_rewardAmount) (n + 1) b → ∀ S' ss st laid, pd_out S' → post 0 (ss, f_transactions, f_putCount, f_blocks, f_tip, f_poolCount, f_queueCount, a_tokenCount, a_tokenOp, a_tokenValue, a_scriptInUse, st, a_inputCount, a_inputCoin, a_inputA, a_inputB, a_outputCount, a_outputAmount, a_outputScript, a_feeOf, a_putRow, a_parentOf, a_heightOf, a_chainWork, a_blockState, a_rewardAmount, a_rewardScript, a_blockSize, a_blockTransaction, laid, (S').1, (S').2.1, (S').2.2, a_poolRow, a_marked, a_queue)) :
    wpX_isValidOnParent post (f_stackSize, f_transactions, f_putCount, f_blocks, f_tip, f_poolCount, f_queueCount, a_tokenCount, a_tokenOp, a_tokenValue, a_scriptInUse, a_stack, a_inputCount, a_inputCoin, a_inputA, a_inputB, a_outputCount, a_outputAmount, a_outputScript, a_feeOf, a_putRow, a_parentOf, a_heightOf, a_chainWork, a_blockState, a_rewardAmount, a_rewardScript, a_blockSize, a_blockTransaction, a_laidBlock, S.1, S.2.1, S.2.2, a_poolRow, a_marked, a_queue) (nI b) := by
  have hbk := w.2.1
  obtain ⟨p, q1, q2, q3, q4⟩ := pd_par w hb he (by omega)
  have q2' : a_parentOf (nI b).toNatClampNeg = nI p := by rw [pk_cl b]; exact q2
  have q3' : (a_parentOf b).toNatClampNeg = p := q3
  rw [q3'] at hst
  rw [pd_valid, q3] at H1 H0
  unfold wpX_isValidOnParent
  dsimp only
  rw [q2', pk_cl p]
  refine ⟨pk_in b 32 (by omega), pk_in p 32 (by omega), br_c (fun z => ⟨pk_in b 32 (by omega), ?_⟩) (fun z => H0 (fun q => z (hst.mpr q.1)) _ _ _ _ hS)⟩
  refine xm_layChain w (by omega) q4 (by omega) S hS fun laid _ => ?_
  refine xm_ivp29 w tk hb hnp ep _ (pd_inv_lay w n p (by omega) q4 (by omega)) (fun hok S' ss st ho => ?_) (fun hok S' ss st ho => ?_)
  · exact H1 ⟨hst.mp z, hok⟩ S' ss st laid ho
  · exact H0 (fun q => hok q.2) S' ss st laid ho
end
end
section
/-! sums, and Y's enter -/
def pd_sin (f co : pd_F) (base : Nat) : Nat → Int32
  | 0 => 0
  | n + 1 => pd_sin f co base n + f (co (base + n)).toNatClampNeg
def pd_sout (x : Int32) (oa : pd_F) (base : Nat) : Nat → Int32
  | 0 => x
  | n + 1 => pd_sout x oa base n - oa (base + n)
def pd_amt (D : pd_D) : pd_F := fun c => if c < 120 then pd_oa D c else pd_rw D (c - 120)
def pd_feq (D : pd_D) (made : Nat) : Prop := ∀ t, t < made → pd_fe D t = pd_sout (pd_sin (pd_amt D) (pd_co D) (3 * t) (pd_ic D t).toNatClampNeg) (pd_oa D) (3 * t) (pd_oc D t).toNatClampNeg
def pd_srw (x : Int32) (fe bt : pd_F) (base : Nat) : Nat → Int32
  | 0 => x
  | n + 1 => pd_srw x fe bt base n + fe (bt (base + n)).toNatClampNeg
def pd_req (D : pd_D) (blocks : Nat) : Prop := ∀ b, b < blocks → pd_rw D b = pd_srw ((64 : Int32) >>> ((pd_he D b / 4) &&& 31)) (pd_fe D) (pd_bt D) (4 * b) (pd_bs D b).toNatClampNeg
def pd_wor (D : pd_D) (f w : pd_F) : Prop := ∀ c, c < 152 → 0 ≤ f c → w c = pd_amt D c
def pd_rng (f : pd_F) : Prop := ∀ c, c < 152 → f c = -1 ∨ ∃ g, g < 32 ∧ f c = nI g
theorem pd_rng_0 : pd_rng pd_S0.1 := fun c h => Or.inl (if_pos h)
theorem pd_rng_set {f : pd_F} {base n q : Nat} (hq : q < 32) (r : pd_rng f) : pd_rng (pd_setH f base n (nI q)) := by
  intro c hc
  by_cases z : base ≤ c ∧ c < base + n
  · rw [pd_setH_in z]; exact Or.inr ⟨q, hq, rfl⟩
  · rw [pd_setH_no z]; exact r c hc
theorem pd_rng_txs {D : pd_D} {b q : Nat} {S : pd_S} (hq : q < 32) (r : pd_rng S.1) : ∀ n, pd_rng (pd_txs D b (nI q) n S).1 := by
  intro n
  induction n with
  | zero => exact r
  | succ n ih => exact pd_rng_set hq ih
theorem pd_rng_blk {D : pd_D} {b q : Nat} {S : pd_S} (hq : q < 32) (e : pd_he D b = nI q) (r : pd_rng S.1) : pd_rng (pd_blk D b S).1 := by
  intro c hc
  show upd _ _ _ c = -1 ∨ ∃ g, g < 32 ∧ upd _ _ _ c = nI g
  rw [e]
  by_cases z : c = 120 + b
  · rw [z, pk_us]; exact Or.inr ⟨q, hq, rfl⟩
  · rw [pk_un z]; exact pd_rng_txs hq r _ c hc
theorem pd_rng_lay {D : pd_D} {made blocks : Nat} (w : pd_wf D made blocks) : ∀ n b, b < blocks → pd_he D b = nI n → n < 32 → pd_rng (pd_lay D n b).1 := by
  intro n
  induction n with
  | zero => intro b hb he hn; exact pd_rng_blk hn he pd_rng_0
  | succ n ih =>
    intro b hb he hn
    obtain ⟨p, h1, h2, h3, h4⟩ := pd_par w hb he (by omega)
    rw [pd_lay, h3]
    exact pd_rng_blk hn he (ih p (by omega) h4 (by omega))
/-- two forms of: a reward is deep enough -/
theorem pd_deep {h g : Nat} (hh : h ≤ 64) (hg : g ≤ 64) : (¬ nI h - 2 < nI g) ↔ 2 ≤ nI h - nI g := by
  have e1 : (nI h - 2).toInt = (h : Int) - 2 := pk_sub_toInt (b := 2) (by omega) (by omega)
  have e2 : (nI h - nI g).toInt = (h : Int) - g := pk_sub_toInt (by omega) (by omega)
  rw [Int32.lt_iff_toInt_lt, Int32.le_iff_toInt_le, e1, e2, nI_toInt (by omega), show (2 : Int32).toInt = 2 from by decide]
  omega
def pd_okX (D : pd_D) (S : pd_S) (t : Nat) (h : Int32) : Prop := S.2.2 t < 0 ∧ (∀ i, i < (pd_ic D t).toNatClampNeg → pd_okIn D S h (3 * t + i))
theorem yb_3 (t i : Nat) : 3 * nI t + nI i = nI (3 * t + i) := by rw [show (3 : Int32) = nI 3 from rfl, pk_mul, nI_add]
theorem yb_4 (t i : Nat) : 4 * nI t + nI i = nI (4 * t + i) := by rw [show (4 : Int32) = nI 4 from rfl, pk_mul, nI_add]
theorem yb_30 (t : Nat) : 3 * nI t = nI (3 * t + 0) := by rw [show (3 : Int32) = nI 3 from rfl, pk_mul]; rfl
theorem yb_40 (t : Nat) : 4 * nI t = nI (4 * t + 0) := by rw [show (4 : Int32) = nI 4 from rfl, pk_mul]; rfl
section
variable {g_made g_blocks g_arrivals g_tip g_pooled g_chainLength : Int32} {b_op b_arg b_length b_ins b_inCoin b_inA b_inB b_outs b_amount b_lock b_parent b_work b_rewardLock b_height b_many b_holds b_delivered b_arrived b_pool b_chain b_from b_worth b_within b_spent b_stack b_again b_chosen gfe grw : Nat → Int32}
theorem ym_en144 {t m : Nat} {h acc : Int32} (ht : t < 40) (hm : m ≤ 3) (em : b_outs t = nI m) {post : Int32 → SY → Prop} (f : Nat → Int32)
    (H : ∀ wo, pd_wor (b_length, b_op, b_arg, b_ins, b_inCoin, b_inA, b_inB, b_outs, b_amount, b_lock, b_parent, b_height, b_rewardLock, b_many, b_holds, gfe, grw) (pd_setH f (3 * t) m h) wo → post (pd_sout acc b_amount (3 * t) m) (g_made, g_blocks, g_arrivals, g_tip, g_pooled, g_chainLength, b_op, b_arg, b_length, b_ins, b_inCoin, b_inA, b_inB, b_outs, b_amount, b_lock, b_parent, b_work, b_rewardLock, b_height, b_many, b_holds, b_delivered, b_arrived, b_pool, b_chain, pd_setH f (3 * t) m h, wo, upd b_within t h, b_spent, b_stack, b_again, b_chosen)) :
    ∀ (d i fuel : Nat) (wo : Nat → Int32), i + d = m → d < fuel → pd_wor (b_length, b_op, b_arg, b_ins, b_inCoin, b_inA, b_inB, b_outs, b_amount, b_lock, b_parent, b_height, b_rewardLock, b_many, b_holds, gfe, grw) (pd_setH f (3 * t) i h) wo → wY_enter_144 post (nI t) h g_made g_blocks g_arrivals g_tip g_pooled g_chainLength fuel (pd_sout acc b_amount (3 * t) i) (nI (3 * t + i)) b_op b_arg b_length b_ins b_inCoin b_inA b_inB b_outs b_amount b_lock b_parent b_work b_rewardLock b_height b_many b_holds b_delivered b_arrived b_pool b_chain (pd_setH f (3 * t) i h) wo b_within b_spent b_stack b_again b_chosen := by
  have e3 : 3 * nI t + b_outs (nI t).toNatClampNeg = nI (3 * t + m) := by rw [pk_cl t, em]; exact yb_3 t m
  intro d
  induction d with
  | zero =>
    intro i fuel wo hi hf hw
    obtain ⟨fuel, rfl⟩ : ∃ q, fuel = q + 1 := ⟨fuel - 1, by omega⟩
    obtain rfl : i = m := by omega
    exact ⟨pk_in t 41 (by omega), br_t (by rw [e3]; exact nI_le (Nat.le_refl _) (by omega)) ⟨pk_in t 40 (by omega), nm_r (by rw [pk_cl t]) (H wo hw)⟩⟩
  | succ d ih =>
    intro i fuel wo hi hf hw
    obtain ⟨fuel, rfl⟩ : ∃ q, fuel = q + 1 := ⟨fuel - 1, by omega⟩
    have ec := pk_cl (x := nI (3 * t + i)) (3 * t + i)
    refine ⟨pk_in t 41 (by omega), pk_le (3 * t + m) (3 * t + i) (fun z => by omega) (fun z => ⟨pk_in (3 * t + i) 123 (by omega), nm_r (by rw [ec] <;> rfl) ⟨pk_in (3 * t + i) 152 (by omega), nm_r (by rw [ec, ← pd_setH_s]) ⟨pk_in (3 * t + i) 123 (by omega), pk_in (3 * t + i) 152 (by omega), nm_r (by rw [ec]) (nm_r (nI_1 (3 * t + i)) (ih (i + 1) fuel _ (by omega) (by omega) ?_))⟩⟩⟩) e3⟩
    intro c hc h0
    by_cases e : c = 3 * t + i
    · subst e
      rw [pk_us]
      exact (if_pos (by omega)).symm
    · rw [pk_un e]
      rw [pd_setH_s, pk_un e] at h0
      exact hw c hc h0
theorem ym_enter {made blocks t q : Nat} (w : pd_wf (b_length, b_op, b_arg, b_ins, b_inCoin, b_inA, b_inB, b_outs, b_amount, b_lock, b_parent, b_height, b_rewardLock, b_many, b_holds, gfe, grw) made blocks) (tk : fx_tok b_length b_op b_arg) (fq : pd_feq (b_length, b_op, b_arg, b_ins, b_inCoin, b_inA, b_inB, b_outs, b_amount, b_lock, b_parent, b_height, b_rewardLock, b_many, b_holds, gfe, grw) made) (ht : t < made) (hq : q < 32) (S : pd_S) (hS : pd_out S) (rg : pd_rng S.1) (wr : pd_wor (b_length, b_op, b_arg, b_ins, b_inCoin, b_inA, b_inB, b_outs, b_amount, b_lock, b_parent, b_height, b_rewardLock, b_many, b_holds, gfe, grw) S.1 b_worth) {post : Int32 → SY → Prop}
    (H1 : pd_okX (b_length, b_op, b_arg, b_ins, b_inCoin, b_inA, b_inB, b_outs, b_amount, b_lock, b_parent, b_height, b_rewardLock, b_many, b_holds, gfe, grw) S t (nI q) → ∀ wo st, pd_wor (b_length, b_op, b_arg, b_ins, b_inCoin, b_inA, b_inB, b_outs, b_amount, b_lock, b_parent, b_height, b_rewardLock, b_many, b_holds, gfe, grw) (pd_layTx (b_length, b_op, b_arg, b_ins, b_inCoin, b_inA, b_inB, b_outs, b_amount, b_lock, b_parent, b_height, b_rewardLock, b_many, b_holds, gfe, grw) t (nI q) S).1 wo → post (gfe t) (g_made, g_blocks, g_arrivals, g_tip, g_pooled, g_chainLength, b_op, b_arg, b_length, b_ins, b_inCoin, b_inA, b_inB, b_outs, b_amount, b_lock, b_parent, b_work, b_rewardLock, b_height, b_many, b_holds, b_delivered, b_arrived, b_pool, b_chain, (pd_layTx (b_length, b_op, b_arg, b_ins, b_inCoin, b_inA, b_inB, b_outs, b_amount, b_lock, b_parent, b_height, b_rewardLock, b_many, b_holds, gfe, grw) t (nI q) S).1, wo, (pd_layTx (b_length, b_op, b_arg, b_ins, b_inCoin, b_inA, b_inB, b_outs, b_amount, b_lock, b_parent, b_height, b_rewardLock, b_many, b_holds, gfe, grw) t (nI q) S).2.2, (pd_layTx (b_length, b_op, b_arg, b_ins, b_inCoin, b_inA, b_inB, b_outs, b_amount, b_lock, b_parent, b_height, b_rewardLock, b_many, b_holds, gfe, grw) t (nI q) S).2.1, st, b_again, b_chosen))
    (H0 : ¬ pd_okX (b_length, b_op, b_arg, b_ins, b_inCoin, b_inA, b_inB, b_outs, b_amount, b_lock, b_parent, b_height, b_rewardLock, b_many, b_holds, gfe, grw) S t (nI q) → ∀ S' st, pd_out S' → post (-1) (g_made, g_blocks, g_arrivals, g_tip, g_pooled, g_chainLength, b_op, b_arg, b_length, b_ins, b_inCoin, b_inA, b_inB, b_outs, b_amount, b_lock, b_parent, b_work, b_rewardLock, b_height, b_many, b_holds, b_delivered, b_arrived, b_pool, b_chain, (S').1, b_worth, (S').2.2, (S').2.1, st, b_again, b_chosen)) :
    wpY_enter post (g_made, g_blocks, g_arrivals, g_tip, g_pooled, g_chainLength, b_op, b_arg, b_length, b_ins, b_inCoin, b_inA, b_inB, b_outs, b_amount, b_lock, b_parent, b_work, b_rewardLock, b_height, b_many, b_holds, b_delivered, b_arrived, b_pool, b_chain, S.1, b_worth, S.2.2, S.2.1, b_stack, b_again, b_chosen) (nI t) (nI q) := by
  have hm := w.2.2.1
  obtain ⟨n, m, _, hn, _, hm3, en, em, hc, hd, _⟩ := w.2.2.2.2.1 _ ht
  have en' : b_ins t = nI n := en
  have em' : b_outs t = nI m := em
  have enc : (pd_ic (b_length, b_op, b_arg, b_ins, b_inCoin, b_inA, b_inB, b_outs, b_amount, b_lock, b_parent, b_height, b_rewardLock, b_many, b_holds, gfe, grw) t).toNatClampNeg = n := pd_cl en (by omega)
  have emc : (pd_oc (b_length, b_op, b_arg, b_ins, b_inCoin, b_inA, b_inB, b_outs, b_amount, b_lock, b_parent, b_height, b_rewardLock, b_many, b_holds, gfe, grw) t).toNatClampNeg = m := pd_cl em (by omega)
  have e3 : 3 * nI t + b_ins (nI t).toNatClampNeg = nI (3 * t + n) := by rw [pk_cl t, en']; exact yb_3 t n
  have efe : gfe t = pd_sout (pd_sin (pd_amt (b_length, b_op, b_arg, b_ins, b_inCoin, b_inA, b_inB, b_outs, b_amount, b_lock, b_parent, b_height, b_rewardLock, b_many, b_holds, gfe, grw)) b_inCoin (3 * t) n) b_amount (3 * t) m := by
    have := fq t ht
    rw [enc, emc] at this
    exact this
  unfold pd_okX at H1 H0
  rw [enc] at H1 H0
  unfold pd_layTx at H1
  rw [enc, emc] at H1
  refine ⟨pk_in t 40 (by omega), ?_⟩
  rw [pk_cl t]
  refine br_c (fun z0 => nm_r (yb_30 t) ?_) (fun z0 => H0 (fun p => z0 p.1) S _ hS)
  have outS : ∀ i, i ≤ n → pd_out (S.1, pd_spend S.2.1 b_inCoin (3 * t) i, S.2.2) := by
    intro i hi
    refine ⟨hS.1, fun c hc' => ?_, hS.2.2⟩
    show pd_spend S.2.1 b_inCoin (3 * t) i c = 0
    rw [pd_spend_no, hS.2.1 c hc']
    intro j hj e
    obtain ⟨c', h3, ec, _⟩ := hc j (by omega)
    have : (b_inCoin (3 * t + j)).toNatClampNeg = c' := pd_cl ec (by omega)
    omega
  have key : ∀ (d i fuel : Nat) (st : Nat → Int32), i + d = n → d < fuel → (∀ j, j < i → pd_okIn (b_length, b_op, b_arg, b_ins, b_inCoin, b_inA, b_inB, b_outs, b_amount, b_lock, b_parent, b_height, b_rewardLock, b_many, b_holds, gfe, grw) S (nI q) (3 * t + j)) → wY_enter_18 post (nI t) (nI q) fuel (pd_sin (pd_amt (b_length, b_op, b_arg, b_ins, b_inCoin, b_inA, b_inB, b_outs, b_amount, b_lock, b_parent, b_height, b_rewardLock, b_many, b_holds, gfe, grw)) b_inCoin (3 * t) i) (nI (3 * t + i)) g_made g_blocks g_arrivals g_tip g_pooled g_chainLength b_op b_arg b_length b_ins b_inCoin b_inA b_inB b_outs b_amount b_lock b_parent b_work b_rewardLock b_height b_many b_holds b_delivered b_arrived b_pool b_chain S.1 b_worth S.2.2 (pd_spend S.2.1 b_inCoin (3 * t) i) st b_again b_chosen := by
    intro d
    induction d with
    | zero =>
      intro i fuel st hi hf hj
      obtain ⟨fuel, rfl⟩ : ∃ q, fuel = q + 1 := ⟨fuel - 1, by omega⟩
      obtain rfl : i = n := by omega
      refine ⟨pk_in t 41 (by omega), br_t (by rw [e3]; exact nI_le (Nat.le_refl _) (by omega)) (nm_r (yb_30 t) ⟨m + 1, ?_⟩)⟩
      have H144 : ∀ wo, pd_wor (b_length, b_op, b_arg, b_ins, b_inCoin, b_inA, b_inB, b_outs, b_amount, b_lock, b_parent, b_height, b_rewardLock, b_many, b_holds, gfe, grw) (pd_setH S.1 (3 * t) m (nI q)) wo → post (pd_sout (pd_sin (pd_amt (b_length, b_op, b_arg, b_ins, b_inCoin, b_inA, b_inB, b_outs, b_amount, b_lock, b_parent, b_height, b_rewardLock, b_many, b_holds, gfe, grw)) b_inCoin (3 * t) i) b_amount (3 * t) m) (g_made, g_blocks, g_arrivals, g_tip, g_pooled, g_chainLength, b_op, b_arg, b_length, b_ins, b_inCoin, b_inA, b_inB, b_outs, b_amount, b_lock, b_parent, b_work, b_rewardLock, b_height, b_many, b_holds, b_delivered, b_arrived, b_pool, b_chain, pd_setH S.1 (3 * t) m (nI q), wo, upd S.2.2 t (nI q), pd_spend S.2.1 b_inCoin (3 * t) i, st, b_again, b_chosen) := fun wo hw => by
        rw [← efe]
        exact H1 ⟨z0, hj⟩ wo st hw
      have := ym_en144 (by omega) hm3 em' S.1 H144 m 0 (m + 1) b_worth (by omega) (by omega) (by rw [pd_setH_0]; exact wr)
      rw [pd_setH_0] at this
      exact this
    | succ d ih =>
      intro i fuel st hi hf hj
      obtain ⟨fuel, rfl⟩ : ∃ q, fuel = q + 1 := ⟨fuel - 1, by omega⟩
      obtain ⟨c, hc1, hc2, hc3⟩ := hc i (by omega)
      have hc2' : b_inCoin (3 * t + i) = nI c := hc2
      have hqc := pd_coin_mono (Nat.le_of_lt ht) hc3
      have ecc : (pd_co (b_length, b_op, b_arg, b_ins, b_inCoin, b_inA, b_inB, b_outs, b_amount, b_lock, b_parent, b_height, b_rewardLock, b_many, b_holds, gfe, grw) (3 * t + i)).toNatClampNeg = c := pd_cl hc2 (by omega)
      have ecx : (nI c).toNatClampNeg = c := pk_cl c
      obtain ⟨s8, so, sr⟩ := pd_sc_eq w hqc
      have spc : pd_spend S.2.1 b_inCoin (3 * t) i c = S.2.1 c := by
        refine pd_spend_no _ fun j hj' e => ?_
        obtain ⟨c', h3, ec', _⟩ := hc j (by omega)
        have ec1 : (b_inCoin (3 * t + j)).toNatClampNeg = c' := pd_cl ec' (by omega)
        have : j = i := hd j i (by omega) (by omega) (by rw [ec', hc2]; exact congrArg nI (by omega))
        omega
      have fail : ¬ pd_okIn (b_length, b_op, b_arg, b_ins, b_inCoin, b_inA, b_inB, b_outs, b_amount, b_lock, b_parent, b_height, b_rewardLock, b_many, b_holds, gfe, grw) S (nI q) (3 * t + i) → ∀ st', post (-1) (g_made, g_blocks, g_arrivals, g_tip, g_pooled, g_chainLength, b_op, b_arg, b_length, b_ins, b_inCoin, b_inA, b_inB, b_outs, b_amount, b_lock, b_parent, b_work, b_rewardLock, b_height, b_many, b_holds, b_delivered, b_arrived, b_pool, b_chain, S.1, b_worth, S.2.2, pd_spend S.2.1 b_inCoin (3 * t) i, st', b_again, b_chosen) := fun hno st' => H0 (fun p => hno (p.2 i (by omega))) _ st' (outS i (by omega))
      have m82 : 0 ≤ S.1 c → S.2.1 c = 0 → (120 ≤ c → 2 ≤ nI q - S.1 c) → wY_enter_82 post (wY_enter_18 post (nI t) (nI q) fuel) (nI t) (nI q) (pd_sin (pd_amt (b_length, b_op, b_arg, b_ins, b_inCoin, b_inA, b_inB, b_outs, b_amount, b_lock, b_parent, b_height, b_rewardLock, b_many, b_holds, gfe, grw)) b_inCoin (3 * t) i) (nI (3 * t + i)) (nI c) g_made g_blocks g_arrivals g_tip g_pooled g_chainLength b_op b_arg b_length b_ins b_inCoin b_inA b_inB b_outs b_amount b_lock b_parent b_work b_rewardLock b_height b_many b_holds b_delivered b_arrived b_pool b_chain S.1 b_worth S.2.2 (pd_spend S.2.1 b_inCoin (3 * t) i) st b_again b_chosen := by
        intro g0 g1 g2
        unfold wY_enter_82
        rw [pk_cl (x := nI (3 * t + i)) (3 * t + i), ecx]
        refine ⟨pk_in (3 * t + i) 123 (by omega), pk_in (3 * t + i) 123 (by omega), pk_in c 152 hc1, ym_fits hc1 s8 so sr tk (fun hf' st' => ?_) (fun hf' st' => ?_)⟩
        · have hok : pd_okIn (b_length, b_op, b_arg, b_ins, b_inCoin, b_inA, b_inB, b_outs, b_amount, b_lock, b_parent, b_height, b_rewardLock, b_many, b_holds, gfe, grw) S (nI q) (3 * t + i) := by
            unfold pd_okIn
            rw [ecc]
            exact ⟨g0, g1, g2, hf'⟩
          refine br_f (by decide) ⟨pk_in c 152 hc1, nm_r (e' := pd_spend S.2.1 b_inCoin (3 * t) (i + 1)) (by rw [pd_spend, hc2', ecx]; rfl) ⟨pk_in c 152 hc1, nm_r (e' := pd_sin (pd_amt (b_length, b_op, b_arg, b_ins, b_inCoin, b_inA, b_inB, b_outs, b_amount, b_lock, b_parent, b_height, b_rewardLock, b_many, b_holds, gfe, grw)) b_inCoin (3 * t) (i + 1)) (by rw [pd_sin, hc2', ecx, wr c hc1 g0]) (nm_r (nI_1 (3 * t + i)) (ih (i + 1) fuel st' (by omega) (by omega) fun j hj' => ?_))⟩⟩
          by_cases e : j = i
          · subst e; exact hok
          · exact hj j (by omega)
        · refine br_t rfl (fail (fun p => hf' ?_) st')
          unfold pd_okIn at p
          rw [ecc] at p
          exact p.2.2.2
      refine ⟨pk_in t 41 (by omega), pk_le (3 * t + n) (3 * t + i) (fun z => by omega) (fun z => ⟨pk_in (3 * t + i) 123 (by omega), nm_r ((congrArg b_inCoin (pk_cl (3 * t + i))).trans hc2) ⟨pk_in c 152 hc1, ?_⟩⟩) e3⟩
      rw [ecx]
      unfold pd_okIn at fail
      rw [ecc] at fail
      refine br_c (fun z1 => fail (fun p => absurd p.1 (Int32.not_le.mpr z1)) _) (fun z1 => ⟨pk_in c 152 hc1, ?_⟩)
      have z1' : 0 ≤ S.1 c := Int32.not_lt.mp z1
      obtain ⟨g, hg, eg⟩ : ∃ g, g < 32 ∧ S.1 c = nI g := by
        rcases rg c hc1 with e | e
        · rw [e] at z1'; exact (pd_m1 z1').elim
        · exact e
      refine br_c (fun z2 => ?_) (fun z2 => fail (fun p => z2 (spc.trans p.2.1)) _)
      rw [spc] at z2
      refine pk_lt c 120 (fun z3 => m82 z1' z2 (fun q => by omega)) (fun z3 => ⟨pk_in c 152 hc1, br_c (fun z4 => fail (fun p => ?_) _) (fun z4 => m82 z1' z2 (fun _ => ?_))⟩)
      · have := p.2.2.1 z3
        rw [eg] at this z4
        exact (pd_deep (by omega) (by omega)).mpr this z4
      · rw [eg] at z4 ⊢
        exact (pd_deep (by omega) (by omega)).mp z4
  exact ⟨n + 1, key n 0 (n + 1) _ (by omega) (by omega) (fun j hj => by omega)⟩
end
end
section
/-! Y: walk -/
theorem pd_okX_ok {D : pd_D} {S : pd_S} {t : Nat} {h : Int32} : pd_okTx D S t h ↔ pd_okX D S t h ∧ 0 ≤ pd_fe D t := by
  unfold pd_okTx pd_okX
  exact ⟨fun q => ⟨⟨q.1, q.2.1⟩, q.2.2⟩, fun q => ⟨q.1.1, q.1.2, q.2⟩⟩
theorem pd_fall {D : pd_D} {b : Nat} {h : Int32} {S : pd_S} {i n : Nat} (hi : i < n) (hno : ¬ pd_okTx D (pd_txs D b h i S) (pd_bt D (4 * b + i)).toNatClampNeg h) : ¬ pd_okTxs D b h n S := by
  induction n with
  | zero => omega
  | succ m ih =>
    intro q
    by_cases e : i = m
    · subst e; exact hno q.2
    · exact ih (by omega) q.1
theorem pd_valid_anc {D : pd_D} {b : Nat} : ∀ n, pd_valid D n b → ∀ k, k ≤ n → pd_valid D (n - k) (pd_anc D b k) := by
  intro n hv k
  induction k with
  | zero => intro _; exact hv
  | succ k ih =>
    intro hk
    have := ih (by omega)
    rw [show n - k = (n - (k + 1)) + 1 by omega, pd_valid] at this
    exact this.1
/-- valid so far: the first h blocks of b's chain -/
def pd_VT (D : pd_D) (b n : Nat) : Nat → Prop
  | 0 => True
  | k + 1 => pd_valid D k (pd_anc D b (n - k))
theorem pd_VT_s {D : pd_D} {made blocks b n h : Nat} (w : pd_wf D made blocks) (hb : b < blocks) (he : pd_he D b = nI n) (hn : n < 32) (hh : h ≤ n) : pd_VT D b n (h + 1) ↔ pd_VT D b n h ∧ pd_okTxs D (pd_anc D b (n - h)) (pd_he D (pd_anc D b (n - h))) (pd_bs D (pd_anc D b (n - h))).toNatClampNeg (pd_T D b n h) := by
  cases h with
  | zero =>
    obtain ⟨q1, q2⟩ := pd_anc_of w hb he hn n (Nat.le_refl _)
    rw [Nat.sub_self] at q2
    have z := pd_par0 w q1 q2
    rw [Nat.sub_zero, z, w.2.2.2.1]
    exact ⟨fun _ => ⟨trivial, trivial⟩, fun _ => trivial⟩
  | succ k =>
    show pd_valid D (k + 1) _ ↔ _
    rw [pd_valid]
    have e : n - k = (n - (k + 1)) + 1 := by omega
    rw [pd_VT, pd_T, e, pd_anc]
theorem pd_VT_n {D : pd_D} {b n : Nat} : pd_VT D b n (n + 1) ↔ pd_valid D n b := by rw [pd_VT, Nat.sub_self, pd_anc]
theorem pd_VT_no {D : pd_D} {b n h : Nat} (hh : h ≤ n + 1) (hno : ¬ pd_VT D b n h) : ¬ pd_valid D n b := by
  intro q
  cases h with
  | zero => exact hno trivial
  | succ k =>
    have := pd_valid_anc n q (n - k) (by omega)
    rw [show n - (n - k) = k by omega] at this
    exact hno this
theorem pd_inv_T {D : pd_D} {made blocks b n : Nat} (w : pd_wf D made blocks) (hb : b < blocks) (he : pd_he D b = nI n) (hn : n < 32) (h : Nat) (hh : h ≤ n + 1) : pd_inv D made blocks (pd_T D b n h) ∧ pd_rng (pd_T D b n h).1 := by
  cases h with
  | zero => exact ⟨pd_inv_0 D made blocks, pd_rng_0⟩
  | succ k =>
    obtain ⟨q1, q2⟩ := pd_anc_of w hb he hn (n - k) (by omega)
    rw [show n - (n - k) = k by omega] at q2
    exact ⟨pd_inv_lay w k _ q1 q2 (by omega), pd_rng_lay w k _ q1 q2 (by omega)⟩
section
variable {g_made g_blocks g_arrivals g_tip g_pooled g_chainLength : Int32} {b_op b_arg b_length b_ins b_inCoin b_inA b_inB b_outs b_amount b_lock b_parent b_work b_rewardLock b_height b_many b_holds b_delivered b_arrived b_pool b_chain b_from b_worth b_within b_spent b_stack b_again b_chosen gfe grw : Nat → Int32}
theorem ym_w123 {made blocks x h n : Nat} {x0 : Int32} (w : pd_wf (b_length, b_op, b_arg, b_ins, b_inCoin, b_inA, b_inB, b_outs, b_amount, b_lock, b_parent, b_height, b_rewardLock, b_many, b_holds, gfe, grw) made blocks) (tk : fx_tok b_length b_op b_arg) (fq : pd_feq (b_length, b_op, b_arg, b_ins, b_inCoin, b_inA, b_inB, b_outs, b_amount, b_lock, b_parent, b_height, b_rewardLock, b_many, b_holds, gfe, grw) made) (hx : x < blocks) (hh : h < 32) (ehx : b_height x = nI h) (en : b_many x = nI n) (hn : n ≤ 4) (ech : b_chain h = nI x) (erw : grw x = pd_srw x0 gfe b_holds (4 * x) n) (S : pd_S) (I : pd_inv (b_length, b_op, b_arg, b_ins, b_inCoin, b_inA, b_inB, b_outs, b_amount, b_lock, b_parent, b_height, b_rewardLock, b_many, b_holds, gfe, grw) made blocks S) (rg : pd_rng S.1) {post : Int32 → SY → Prop} {J : Int32 → Int32 → Int32 → Int32 → Int32 → Int32 → Int32 → (Nat → Int32) → (Nat → Int32) → (Nat → Int32) → (Nat → Int32) → (Nat → Int32) → (Nat → Int32) → (Nat → Int32) → (Nat → Int32) → (Nat → Int32) → (Nat → Int32) → (Nat → Int32) → (Nat → Int32) → (Nat → Int32) → (Nat → Int32) → (Nat → Int32) → (Nat → Int32) → (Nat → Int32) → (Nat → Int32) → (Nat → Int32) → (Nat → Int32) → (Nat → Int32) → (Nat → Int32) → (Nat → Int32) → (Nat → Int32) → (Nat → Int32) → (Nat → Int32) → (Nat → Int32) → Prop}
    (HJ : pd_okTxs (b_length, b_op, b_arg, b_ins, b_inCoin, b_inA, b_inB, b_outs, b_amount, b_lock, b_parent, b_height, b_rewardLock, b_many, b_holds, gfe, grw) x (nI h) n S → ∀ wo st, pd_wor (b_length, b_op, b_arg, b_ins, b_inCoin, b_inA, b_inB, b_outs, b_amount, b_lock, b_parent, b_height, b_rewardLock, b_many, b_holds, gfe, grw) (pd_blk (b_length, b_op, b_arg, b_ins, b_inCoin, b_inA, b_inB, b_outs, b_amount, b_lock, b_parent, b_height, b_rewardLock, b_many, b_holds, gfe, grw) x S).1 wo → J (nI (h + 1)) g_made g_blocks g_arrivals g_tip g_pooled g_chainLength b_op b_arg b_length b_ins b_inCoin b_inA b_inB b_outs b_amount b_lock b_parent b_work b_rewardLock b_height b_many b_holds b_delivered b_arrived b_pool b_chain ((pd_blk (b_length, b_op, b_arg, b_ins, b_inCoin, b_inA, b_inB, b_outs, b_amount, b_lock, b_parent, b_height, b_rewardLock, b_many, b_holds, gfe, grw) x S).1) wo ((pd_blk (b_length, b_op, b_arg, b_ins, b_inCoin, b_inA, b_inB, b_outs, b_amount, b_lock, b_parent, b_height, b_rewardLock, b_many, b_holds, gfe, grw) x S).2.2) ((pd_blk (b_length, b_op, b_arg, b_ins, b_inCoin, b_inA, b_inB, b_outs, b_amount, b_lock, b_parent, b_height, b_rewardLock, b_many, b_holds, gfe, grw) x S).2.1) st b_again b_chosen)
    (H0 : ¬ pd_okTxs (b_length, b_op, b_arg, b_ins, b_inCoin, b_inA, b_inB, b_outs, b_amount, b_lock, b_parent, b_height, b_rewardLock, b_many, b_holds, gfe, grw) x (nI h) n S → ∀ S' wo st, pd_out S' → post 0 (g_made, g_blocks, g_arrivals, g_tip, g_pooled, g_chainLength, b_op, b_arg, b_length, b_ins, b_inCoin, b_inA, b_inB, b_outs, b_amount, b_lock, b_parent, b_work, b_rewardLock, b_height, b_many, b_holds, b_delivered, b_arrived, b_pool, b_chain, (S').1, wo, (S').2.2, (S').2.1, st, b_again, b_chosen)) :
    ∀ (d i fuel : Nat) (wo st : Nat → Int32), i + d = n → d < fuel → pd_okTxs (b_length, b_op, b_arg, b_ins, b_inCoin, b_inA, b_inB, b_outs, b_amount, b_lock, b_parent, b_height, b_rewardLock, b_many, b_holds, gfe, grw) x (nI h) i S → pd_wor (b_length, b_op, b_arg, b_ins, b_inCoin, b_inA, b_inB, b_outs, b_amount, b_lock, b_parent, b_height, b_rewardLock, b_many, b_holds, gfe, grw) (pd_txs (b_length, b_op, b_arg, b_ins, b_inCoin, b_inA, b_inB, b_outs, b_amount, b_lock, b_parent, b_height, b_rewardLock, b_many, b_holds, gfe, grw) x (nI h) i S).1 wo → wY_walk_123 post J (nI h) fuel (pd_srw x0 gfe b_holds (4 * x) i) (nI (4 * x + i)) g_made g_blocks g_arrivals g_tip g_pooled g_chainLength b_op b_arg b_length b_ins b_inCoin b_inA b_inB b_outs b_amount b_lock b_parent b_work b_rewardLock b_height b_many b_holds b_delivered b_arrived b_pool b_chain ((pd_txs (b_length, b_op, b_arg, b_ins, b_inCoin, b_inA, b_inB, b_outs, b_amount, b_lock, b_parent, b_height, b_rewardLock, b_many, b_holds, gfe, grw) x (nI h) i S).1) wo ((pd_txs (b_length, b_op, b_arg, b_ins, b_inCoin, b_inA, b_inB, b_outs, b_amount, b_lock, b_parent, b_height, b_rewardLock, b_many, b_holds, gfe, grw) x (nI h) i S).2.2) ((pd_txs (b_length, b_op, b_arg, b_ins, b_inCoin, b_inA, b_inB, b_outs, b_amount, b_lock, b_parent, b_height, b_rewardLock, b_many, b_holds, gfe, grw) x (nI h) i S).2.1) st b_again b_chosen := by
  have hbk := w.2.1
  have hmd := w.2.2.1
  have ebs : (pd_bs (b_length, b_op, b_arg, b_ins, b_inCoin, b_inA, b_inB, b_outs, b_amount, b_lock, b_parent, b_height, b_rewardLock, b_many, b_holds, gfe, grw) x).toNatClampNeg = n := pd_cl en (by omega)
  have ecc : b_chain (nI h).toNatClampNeg = nI x := by rw [pk_cl h]; exact ech
  have ecx : (nI x).toNatClampNeg = x := pk_cl x
  have e4 : 4 * b_chain (nI h).toNatClampNeg + b_many (b_chain (nI h).toNatClampNeg).toNatClampNeg = nI (4 * x + n) := by rw [ecc, ecx, en]; exact yb_4 x n
  have e120 : (120 : Int32) + b_chain (nI h).toNatClampNeg = nI (120 + x) := by rw [ecc]; exact nI_add 120 x
  have inn : vp_in (b_chain (nI h).toNatClampNeg) 33 := pk_in x 33 (by omega) ecc
  have hpos : 0 ≤ nI h := nI_pos' (by omega)
  intro d
  induction d with
  | zero =>
    intro i fuel wo st hi hf hok hw
    obtain ⟨fuel, rfl⟩ : ∃ q, fuel = q + 1 := ⟨fuel - 1, by omega⟩
    obtain rfl : i = n := by omega
    have eb : pd_blk (b_length, b_op, b_arg, b_ins, b_inCoin, b_inA, b_inB, b_outs, b_amount, b_lock, b_parent, b_height, b_rewardLock, b_many, b_holds, gfe, grw) x S = (upd (pd_txs (b_length, b_op, b_arg, b_ins, b_inCoin, b_inA, b_inB, b_outs, b_amount, b_lock, b_parent, b_height, b_rewardLock, b_many, b_holds, gfe, grw) x (nI h) i S).1 (120 + x) (nI h), (pd_txs (b_length, b_op, b_arg, b_ins, b_inCoin, b_inA, b_inB, b_outs, b_amount, b_lock, b_parent, b_height, b_rewardLock, b_many, b_holds, gfe, grw) x (nI h) i S).2) := by
      unfold pd_blk
      rw [ebs, show pd_he (b_length, b_op, b_arg, b_ins, b_inCoin, b_inA, b_inB, b_outs, b_amount, b_lock, b_parent, b_height, b_rewardLock, b_many, b_holds, gfe, grw) x = nI h from ehx]
    have HJ' := HJ hok (upd wo (120 + x) (pd_srw x0 gfe b_holds (4 * x) i)) st (by
      intro c hc h0
      by_cases e : c = 120 + x
      · subst e
        rw [pk_us, ← erw]
        show _ = if 120 + x < 120 then _ else grw (120 + x - 120)
        rw [if_neg (by omega), show 120 + x - 120 = x by omega]
      · rw [pk_un e]
        rw [eb] at h0
        have h0' : 0 ≤ upd (pd_txs (b_length, b_op, b_arg, b_ins, b_inCoin, b_inA, b_inB, b_outs, b_amount, b_lock, b_parent, b_height, b_rewardLock, b_many, b_holds, gfe, grw) x (nI h) i S).1 (120 + x) (nI h) c := h0
        rw [pk_un e] at h0'
        exact hw c hc h0')
    rw [eb] at HJ'
    refine ⟨pk_in h 32 hh, pk_in h 32 hh, inn, br_t (by rw [e4]; exact nI_le (Nat.le_refl _) (by omega)) ⟨pk_in h 32 hh, pk_in (120 + x) 152 (by omega) e120, nm_r (by rw [pk_cl (120 + x) e120]) ⟨pk_in h 32 hh, pk_in (120 + x) 152 (by omega) e120, nm_r (by rw [pk_cl (120 + x) e120]) (nm_r (nI_1 h) HJ')⟩⟩⟩
  | succ d ih =>
    intro i fuel wo st hi hf hok hw
    obtain ⟨fuel, rfl⟩ : ∃ q, fuel = q + 1 := ⟨fuel - 1, by omega⟩
    obtain ⟨t, ht, et, etc⟩ := pd_bt_of w hx (i := i) (by rw [ebs]; omega)
    have et' : b_holds (nI (4 * x + i)).toNatClampNeg = nI t := by rw [pk_cl (4 * x + i)]; exact et
    have hI := pd_inv_txs w hx hpos I i (by rw [ebs]; omega)
    refine ⟨pk_in h 32 hh, pk_in h 32 hh, inn, pk_le (4 * x + n) (4 * x + i) (fun z => by omega) (fun z => ⟨pk_in (4 * x + i) 132 (by omega), ?_⟩) e4⟩
    rw [et']
    have hfall : ¬ pd_okTx (b_length, b_op, b_arg, b_ins, b_inCoin, b_inA, b_inB, b_outs, b_amount, b_lock, b_parent, b_height, b_rewardLock, b_many, b_holds, gfe, grw) (pd_txs (b_length, b_op, b_arg, b_ins, b_inCoin, b_inA, b_inB, b_outs, b_amount, b_lock, b_parent, b_height, b_rewardLock, b_many, b_holds, gfe, grw) x (nI h) i S) t (nI h) → ¬ pd_okTxs (b_length, b_op, b_arg, b_ins, b_inCoin, b_inA, b_inB, b_outs, b_amount, b_lock, b_parent, b_height, b_rewardLock, b_many, b_holds, gfe, grw) x (nI h) n S := fun hno => pd_fall (i := i) (by omega) (by rw [etc]; exact hno)
    refine ym_enter w tk fq ht hh _ (pd_inv_out hI) (pd_rng_txs hh rg i) hw (fun hyes wo' st' hw' => br_c (fun z0 => ?_) (fun z0 => ?_)) (fun hno S' st' ho => br_f (by decide) (H0 (hfall fun q => hno (pd_okX_ok.mp q).1) S' _ st' ho))
    · have hok' : pd_okTxs (b_length, b_op, b_arg, b_ins, b_inCoin, b_inA, b_inB, b_outs, b_amount, b_lock, b_parent, b_height, b_rewardLock, b_many, b_holds, gfe, grw) x (nI h) (i + 1) S := ⟨hok, by rw [etc]; exact pd_okX_ok.mpr ⟨hyes, z0⟩⟩
      have := ih (i + 1) fuel wo' st' (by omega) (by omega) hok' (by rw [pd_txs, etc]; exact hw')
      rw [pd_txs, etc] at this
      refine nm_r (e' := pd_srw x0 gfe b_holds (4 * x) (i + 1)) ?_ (nm_r (nI_1 (4 * x + i)) this)
      rw [pd_srw, show (b_holds (4 * x + i)).toNatClampNeg = t from etc]
    · exact H0 (hfall fun q => z0 (pd_okX_ok.mp q).2) _ _ _ (pd_inv_out (pd_inv_tx w ht hpos hI))
theorem ym_w97 {made blocks b n : Nat} (w : pd_wf (b_length, b_op, b_arg, b_ins, b_inCoin, b_inA, b_inB, b_outs, b_amount, b_lock, b_parent, b_height, b_rewardLock, b_many, b_holds, gfe, grw) made blocks) (tk : fx_tok b_length b_op b_arg) (fq : pd_feq (b_length, b_op, b_arg, b_ins, b_inCoin, b_inA, b_inB, b_outs, b_amount, b_lock, b_parent, b_height, b_rewardLock, b_many, b_holds, gfe, grw) made) (rq : pd_req (b_length, b_op, b_arg, b_ins, b_inCoin, b_inA, b_inB, b_outs, b_amount, b_lock, b_parent, b_height, b_rewardLock, b_many, b_holds, gfe, grw) blocks) (hb : b < blocks) (he : b_height b = nI n) (hn : n < 32) (hl : ∀ h, h ≤ n → b_chain h = nI (pd_anc (b_length, b_op, b_arg, b_ins, b_inCoin, b_inA, b_inB, b_outs, b_amount, b_lock, b_parent, b_height, b_rewardLock, b_many, b_holds, gfe, grw) b (n - h))) {post : Int32 → SY → Prop}
    (H1 : pd_valid (b_length, b_op, b_arg, b_ins, b_inCoin, b_inA, b_inB, b_outs, b_amount, b_lock, b_parent, b_height, b_rewardLock, b_many, b_holds, gfe, grw) n b → ∀ wo st, pd_wor (b_length, b_op, b_arg, b_ins, b_inCoin, b_inA, b_inB, b_outs, b_amount, b_lock, b_parent, b_height, b_rewardLock, b_many, b_holds, gfe, grw) (pd_lay (b_length, b_op, b_arg, b_ins, b_inCoin, b_inA, b_inB, b_outs, b_amount, b_lock, b_parent, b_height, b_rewardLock, b_many, b_holds, gfe, grw) n b).1 wo → post 1 (g_made, g_blocks, g_arrivals, g_tip, g_pooled, nI (n + 1), b_op, b_arg, b_length, b_ins, b_inCoin, b_inA, b_inB, b_outs, b_amount, b_lock, b_parent, b_work, b_rewardLock, b_height, b_many, b_holds, b_delivered, b_arrived, b_pool, b_chain, (pd_lay (b_length, b_op, b_arg, b_ins, b_inCoin, b_inA, b_inB, b_outs, b_amount, b_lock, b_parent, b_height, b_rewardLock, b_many, b_holds, gfe, grw) n b).1, wo, (pd_lay (b_length, b_op, b_arg, b_ins, b_inCoin, b_inA, b_inB, b_outs, b_amount, b_lock, b_parent, b_height, b_rewardLock, b_many, b_holds, gfe, grw) n b).2.2, (pd_lay (b_length, b_op, b_arg, b_ins, b_inCoin, b_inA, b_inB, b_outs, b_amount, b_lock, b_parent, b_height, b_rewardLock, b_many, b_holds, gfe, grw) n b).2.1, st, b_again, b_chosen))
    (H0 : ¬ pd_valid (b_length, b_op, b_arg, b_ins, b_inCoin, b_inA, b_inB, b_outs, b_amount, b_lock, b_parent, b_height, b_rewardLock, b_many, b_holds, gfe, grw) n b → ∀ S' wo st, pd_out S' → post 0 (g_made, g_blocks, g_arrivals, g_tip, g_pooled, nI (n + 1), b_op, b_arg, b_length, b_ins, b_inCoin, b_inA, b_inB, b_outs, b_amount, b_lock, b_parent, b_work, b_rewardLock, b_height, b_many, b_holds, b_delivered, b_arrived, b_pool, b_chain, (S').1, wo, (S').2.2, (S').2.1, st, b_again, b_chosen)) :
    ∀ (d h fuel : Nat) (wo st : Nat → Int32), h + d = n + 1 → d < fuel → pd_VT (b_length, b_op, b_arg, b_ins, b_inCoin, b_inA, b_inB, b_outs, b_amount, b_lock, b_parent, b_height, b_rewardLock, b_many, b_holds, gfe, grw) b n h → pd_wor (b_length, b_op, b_arg, b_ins, b_inCoin, b_inA, b_inB, b_outs, b_amount, b_lock, b_parent, b_height, b_rewardLock, b_many, b_holds, gfe, grw) (pd_T (b_length, b_op, b_arg, b_ins, b_inCoin, b_inA, b_inB, b_outs, b_amount, b_lock, b_parent, b_height, b_rewardLock, b_many, b_holds, gfe, grw) b n h).1 wo → wY_walk_97 post fuel (nI h) g_made g_blocks g_arrivals g_tip g_pooled (nI (n + 1)) b_op b_arg b_length b_ins b_inCoin b_inA b_inB b_outs b_amount b_lock b_parent b_work b_rewardLock b_height b_many b_holds b_delivered b_arrived b_pool b_chain ((pd_T (b_length, b_op, b_arg, b_ins, b_inCoin, b_inA, b_inB, b_outs, b_amount, b_lock, b_parent, b_height, b_rewardLock, b_many, b_holds, gfe, grw) b n h).1) wo ((pd_T (b_length, b_op, b_arg, b_ins, b_inCoin, b_inA, b_inB, b_outs, b_amount, b_lock, b_parent, b_height, b_rewardLock, b_many, b_holds, gfe, grw) b n h).2.2) ((pd_T (b_length, b_op, b_arg, b_ins, b_inCoin, b_inA, b_inB, b_outs, b_amount, b_lock, b_parent, b_height, b_rewardLock, b_many, b_holds, gfe, grw) b n h).2.1) st b_again b_chosen := by
  have hbk := w.2.1
  intro d
  induction d with
  | zero =>
    intro h fuel wo st hd hf hv hw
    obtain ⟨fuel, rfl⟩ : ∃ q, fuel = q + 1 := ⟨fuel - 1, by omega⟩
    obtain rfl : h = n + 1 := by omega
    rw [pd_T_n] at hw ⊢
    exact br_t (nI_le (Nat.le_refl _) (by omega)) (H1 (pd_VT_n.mp hv) wo st hw)
  | succ d ih =>
    intro h fuel wo st hd hf hv hw
    obtain ⟨fuel, rfl⟩ : ∃ q, fuel = q + 1 := ⟨fuel - 1, by omega⟩
    obtain ⟨q1, q2⟩ := pd_anc_of w hb he hn (n - h) (by omega)
    rw [show n - (n - h) = h by omega] at q2
    have hch := hl h (by omega)
    have hvs := pd_VT_s w hb he hn (h := h) (by omega)
    have hTs := pd_T_s (b_length, b_op, b_arg, b_ins, b_inCoin, b_inA, b_inB, b_outs, b_amount, b_lock, b_parent, b_height, b_rewardLock, b_many, b_holds, gfe, grw) b n h (by omega)
    obtain ⟨hI, hr⟩ := pd_inv_T w hb he hn h (by omega)
    generalize hxx : pd_anc (b_length, b_op, b_arg, b_ins, b_inCoin, b_inA, b_inB, b_outs, b_amount, b_lock, b_parent, b_height, b_rewardLock, b_many, b_holds, gfe, grw) b (n - h) = x at q1 q2 hch hvs hTs
    obtain ⟨_, _, ⟨m, hm, em, _⟩, _⟩ := w.2.2.2.2.2 _ q1
    have em' : b_many x = nI m := em
    have emc : (pd_bs (b_length, b_op, b_arg, b_ins, b_inCoin, b_inA, b_inB, b_outs, b_amount, b_lock, b_parent, b_height, b_rewardLock, b_many, b_holds, gfe, grw) x).toNatClampNeg = m := pd_cl em (by omega)
    have q2' : b_height x = nI h := q2
    have erw := rq x q1
    rw [emc, q2] at erw
    have erw' : grw x = pd_srw ((64 : Int32) >>> ((nI h / 4) &&& 31)) gfe b_holds (4 * x) m := erw
    rw [emc, q2] at hvs
    refine pk_le (n + 1) h (fun z => by omega) (fun z => ⟨by decide, nm_e ⟨pk_in h 32 (by omega), nm_r (e' := nI (4 * x + 0)) ?_ ⟨m + 1, ?_⟩⟩⟩)
    · rw [pk_cl h, hch]; exact yb_40 x
    · refine ym_w123 w tk fq q1 (by omega) q2' em' hm hch erw' _ hI hr (fun hok wo' st' hw' => ?_) (fun hno S' wo' st' ho => ?_) m 0 (m + 1) wo st (by omega) (by omega) trivial hw
      · rw [hTs] at hw' ⊢
        exact ih (h + 1) fuel wo' st' (by omega) (by omega) (hvs.mpr ⟨hv, hok⟩) hw'
      · exact H0 (pd_VT_no (h := h + 1) (by omega) fun q => hno (hvs.mp q).2) S' wo' st' ho
theorem ym_walk {made blocks b n : Nat} (w : pd_wf (b_length, b_op, b_arg, b_ins, b_inCoin, b_inA, b_inB, b_outs, b_amount, b_lock, b_parent, b_height, b_rewardLock, b_many, b_holds, gfe, grw) made blocks) (tk : fx_tok b_length b_op b_arg) (fq : pd_feq (b_length, b_op, b_arg, b_ins, b_inCoin, b_inA, b_inB, b_outs, b_amount, b_lock, b_parent, b_height, b_rewardLock, b_many, b_holds, gfe, grw) made) (rq : pd_req (b_length, b_op, b_arg, b_ins, b_inCoin, b_inA, b_inB, b_outs, b_amount, b_lock, b_parent, b_height, b_rewardLock, b_many, b_holds, gfe, grw) blocks) (hb : b < blocks) (he : b_height b = nI n) (hn : n < 32) (S : pd_S) (hS : pd_out S) {post : Int32 → SY → Prop}
    (H1 : pd_valid (b_length, b_op, b_arg, b_ins, b_inCoin, b_inA, b_inB, b_outs, b_amount, b_lock, b_parent, b_height, b_rewardLock, b_many, b_holds, gfe, grw) n b → ∀ wo st ch, pd_wor (b_length, b_op, b_arg, b_ins, b_inCoin, b_inA, b_inB, b_outs, b_amount, b_lock, b_parent, b_height, b_rewardLock, b_many, b_holds, gfe, grw) (pd_lay (b_length, b_op, b_arg, b_ins, b_inCoin, b_inA, b_inB, b_outs, b_amount, b_lock, b_parent, b_height, b_rewardLock, b_many, b_holds, gfe, grw) n b).1 wo → (∀ h, h ≤ n → ch h = nI (pd_anc (b_length, b_op, b_arg, b_ins, b_inCoin, b_inA, b_inB, b_outs, b_amount, b_lock, b_parent, b_height, b_rewardLock, b_many, b_holds, gfe, grw) b (n - h))) → post 1 (g_made, g_blocks, g_arrivals, g_tip, g_pooled, nI (n + 1), b_op, b_arg, b_length, b_ins, b_inCoin, b_inA, b_inB, b_outs, b_amount, b_lock, b_parent, b_work, b_rewardLock, b_height, b_many, b_holds, b_delivered, b_arrived, b_pool, ch, (pd_lay (b_length, b_op, b_arg, b_ins, b_inCoin, b_inA, b_inB, b_outs, b_amount, b_lock, b_parent, b_height, b_rewardLock, b_many, b_holds, gfe, grw) n b).1, wo, (pd_lay (b_length, b_op, b_arg, b_ins, b_inCoin, b_inA, b_inB, b_outs, b_amount, b_lock, b_parent, b_height, b_rewardLock, b_many, b_holds, gfe, grw) n b).2.2, (pd_lay (b_length, b_op, b_arg, b_ins, b_inCoin, b_inA, b_inB, b_outs, b_amount, b_lock, b_parent, b_height, b_rewardLock, b_many, b_holds, gfe, grw) n b).2.1, st, b_again, b_chosen))
    (H0 : ¬ pd_valid (b_length, b_op, b_arg, b_ins, b_inCoin, b_inA, b_inB, b_outs, b_amount, b_lock, b_parent, b_height, b_rewardLock, b_many, b_holds, gfe, grw) n b → ∀ S' wo st ch, pd_out S' → post 0 (g_made, g_blocks, g_arrivals, g_tip, g_pooled, nI (n + 1), b_op, b_arg, b_length, b_ins, b_inCoin, b_inA, b_inB, b_outs, b_amount, b_lock, b_parent, b_work, b_rewardLock, b_height, b_many, b_holds, b_delivered, b_arrived, b_pool, ch, (S').1, wo, (S').2.2, (S').2.1, st, b_again, b_chosen)) :
    wpY_walk post (g_made, g_blocks, g_arrivals, g_tip, g_pooled, g_chainLength, b_op, b_arg, b_length, b_ins, b_inCoin, b_inA, b_inB, b_outs, b_amount, b_lock, b_parent, b_work, b_rewardLock, b_height, b_many, b_holds, b_delivered, b_arrived, b_pool, b_chain, S.1, b_worth, S.2.2, S.2.1, b_stack, b_again, b_chosen) (nI b) := by
  have hbk := w.2.1
  have hec : b_height (nI b).toNatClampNeg = nI n := by rw [nI_clamp (by omega)]; exact he
  have L71 : ∀ (r k fuel : Nat) (ch : Nat → Int32) (x : Int32), k + r = n + 1 → r < fuel → (∀ j, j < k → ch (n - j) = nI (pd_anc (b_length, b_op, b_arg, b_ins, b_inCoin, b_inA, b_inB, b_outs, b_amount, b_lock, b_parent, b_height, b_rewardLock, b_many, b_holds, gfe, grw) b j)) → (0 < r → x = nI (pd_anc (b_length, b_op, b_arg, b_ins, b_inCoin, b_inA, b_inB, b_outs, b_amount, b_lock, b_parent, b_height, b_rewardLock, b_many, b_holds, gfe, grw) b k)) → wY_walk_71 post g_made g_blocks g_arrivals g_tip g_pooled (nI (n + 1)) fuel x (nI r + (-1)) b_op b_arg b_length b_ins b_inCoin b_inA b_inB b_outs b_amount b_lock b_parent b_work b_rewardLock b_height b_many b_holds b_delivered b_arrived b_pool ch pd_S0.1 b_worth pd_S0.2.2 pd_S0.2.1 b_stack b_again b_chosen := by
    intro r
    induction r with
    | zero =>
      intro k fuel ch x hk hf hl hx
      obtain ⟨fuel, rfl⟩ : ∃ q, fuel = q + 1 := ⟨fuel - 1, by omega⟩
      refine br_t (by decide) ⟨n + 2, ?_⟩
      have hl' : ∀ h, h ≤ n → ch h = nI (pd_anc (b_length, b_op, b_arg, b_ins, b_inCoin, b_inA, b_inB, b_outs, b_amount, b_lock, b_parent, b_height, b_rewardLock, b_many, b_holds, gfe, grw) b (n - h)) := fun h hh => by
        have := hl (n - h) (by omega)
        rw [show n - (n - h) = h by omega] at this; exact this
      refine ym_w97 w tk fq rq hb he hn hl' (fun hv wo st hw => H1 hv wo st ch hw hl') (fun hv S' wo st ho => H0 hv S' wo st ch ho) (n + 1) 0 (n + 2) _ _ (by omega) (by omega) trivial ?_
      intro c hc h0
      have h0' : (0 : Int32) ≤ if c < 152 then -1 else 0 := h0
      rw [if_pos hc] at h0'
      exact (pd_m1 h0').elim
    | succ r ih =>
      intro k fuel ch x hk hf hl hx
      obtain ⟨fuel, rfl⟩ : ∃ q, fuel = q + 1 := ⟨fuel - 1, by omega⟩
      obtain rfl := hx (by omega)
      have ha := pd_anc_of w hb he hn k (by omega)
      rw [pk_m1]
      refine br_f (nI_pos (by omega)) ⟨pk_in r 32 (by omega), nm_r (by rw [pk_cl r]) ⟨pk_in (pd_anc (b_length, b_op, b_arg, b_ins, b_inCoin, b_inA, b_inB, b_outs, b_amount, b_lock, b_parent, b_height, b_rewardLock, b_many, b_holds, gfe, grw) b k) 33 (by omega), nm_e (nm_e (ih (k + 1) fuel _ _ (by omega) (by omega) (fun j hj => ?_) (fun hr => ?_)))⟩⟩
      · by_cases e : j = k
        · subst e
          rw [show n - j = r by omega, pk_us]
        · rw [pk_un (by omega)]; exact hl j (by omega)
      · obtain ⟨p, q1, q2, q3, q4⟩ := pd_par w ha.1 (n := n - k - 1) (by rw [ha.2]; exact congrArg nI (by omega)) (by omega)
        rw [pk_cl (pd_anc (b_length, b_op, b_arg, b_ins, b_inCoin, b_inA, b_inB, b_outs, b_amount, b_lock, b_parent, b_height, b_rewardLock, b_many, b_holds, gfe, grw) b k), pd_anc, q3]
        exact q2
  have L71' := L71 (n + 1) 0 (n + 2) b_chain (nI b) (by omega) (by omega) (fun j hj => by omega) (fun _ => rfl)
  rw [pk_m1, ← pd_reset_S hS] at L71'
  have L31 : ∀ (d i fuel : Nat), i + d = 40 → d < fuel → wY_walk_31 post (nI b) g_made g_blocks g_arrivals g_tip g_pooled g_chainLength fuel (nI i) b_op b_arg b_length b_ins b_inCoin b_inA b_inB b_outs b_amount b_lock b_parent b_work b_rewardLock b_height b_many b_holds b_delivered b_arrived b_pool b_chain (pd_reset S.1 152 (-1)) b_worth (pd_reset S.2.2 i (-1)) (pd_reset S.2.1 152 0) b_stack b_again b_chosen := by
    intro d
    induction d with
    | zero =>
      intro i fuel hd hf
      obtain ⟨fuel, rfl⟩ : ∃ q, fuel = q + 1 := ⟨fuel - 1, by omega⟩
      obtain rfl : i = 40 := by omega
      exact br_t (by decide) ⟨pk_in b 33 (by omega), nm_r (by rw [hec, nI_1]) ⟨pk_in b 33 (by omega), nm_r hec ⟨n + 2, L71'⟩⟩⟩
    | succ d ih =>
      intro i fuel hd hf
      obtain ⟨fuel, rfl⟩ : ∃ q, fuel = q + 1 := ⟨fuel - 1, by omega⟩
      refine pk_le 40 i (fun z => by omega) (fun z => ⟨pk_in i 40 (by omega), nm_r (by rw [pk_cl i, ← pd_reset_s]) (nm_r (nI_1 i) (ih (i + 1) fuel (by omega) (by omega)))⟩)
  have L2 : ∀ (d i fuel : Nat), i + d = 152 → d < fuel → wY_walk_2 post (nI b) g_made g_blocks g_arrivals g_tip g_pooled g_chainLength fuel (nI i) b_op b_arg b_length b_ins b_inCoin b_inA b_inB b_outs b_amount b_lock b_parent b_work b_rewardLock b_height b_many b_holds b_delivered b_arrived b_pool b_chain (pd_reset S.1 i (-1)) b_worth S.2.2 (pd_reset S.2.1 i 0) b_stack b_again b_chosen := by
    intro d
    induction d with
    | zero =>
      intro i fuel hd hf
      obtain ⟨fuel, rfl⟩ : ∃ q, fuel = q + 1 := ⟨fuel - 1, by omega⟩
      obtain rfl : i = 152 := by omega
      have := L31 40 0 41 (by omega) (by omega)
      rw [pd_reset_0] at this
      exact br_t (by decide) ⟨41, this⟩
    | succ d ih =>
      intro i fuel hd hf
      obtain ⟨fuel, rfl⟩ : ∃ q, fuel = q + 1 := ⟨fuel - 1, by omega⟩
      refine pk_le 152 i (fun z => by omega) (fun z => ⟨pk_in i 152 (by omega), nm_r (by rw [pk_cl i, ← pd_reset_s]) ⟨pk_in i 152 (by omega), nm_r (by rw [pk_cl i, xb_0, ← pd_reset_s]) (nm_r (nI_1 i) (ih (i + 1) fuel (by omega) (by omega)))⟩⟩)
  have := L2 152 0 153 (by omega) (by omega)
  rw [pd_reset_0, pd_reset_0] at this
  exact ⟨153, this⟩
end
end
section
/-! which transactions have which coins -/
def pd_needs (D : pd_D) (t u : Nat) : Prop := ∃ i, i < (pd_ic D t).toNatClampNeg ∧ (pd_co D (3 * t + i)).toNatClampNeg < 120 ∧ (pd_co D (3 * t + i)).toNatClampNeg / 3 = u
def pd_share (D : pd_D) (t u : Nat) : Prop := ∃ i j, i < (pd_ic D t).toNatClampNeg ∧ j < (pd_ic D u).toNatClampNeg ∧ pd_co D (3 * t + i) = pd_co D (3 * u + j)
theorem pd_ag_needs {D E : pd_D} {made blocks t u : Nat} (a : pd_ag D E made blocks) (ht : t < made) : pd_needs E t u ↔ pd_needs D t u := by
  obtain ⟨e1, _, _, e4, _⟩ := a.1 _ ht
  unfold pd_needs
  rw [e1]
  refine exists_congr fun i => and_congr_right fun hi => ?_
  rw [(e4 i hi).1]
theorem pd_ag_share {D E : pd_D} {made blocks t u : Nat} (a : pd_ag D E made blocks) (ht : t < made) (hu : u < made) : pd_share E t u ↔ pd_share D t u := by
  obtain ⟨e1, _, _, e4, _⟩ := a.1 _ ht
  obtain ⟨f1, _, _, f4, _⟩ := a.1 _ hu
  unfold pd_share
  rw [e1, f1]
  refine exists_congr fun i => exists_congr fun j => and_congr_right fun hi => and_congr_right fun hj => ?_
  rw [(e4 i hi).1, (f4 j hj).1]
theorem pd_view {D : pd_D} {made blocks t : Nat} (w : pd_wf D made blocks) (ht : t < made) : ∃ n, n ≤ 3 ∧ pd_ic D t = nI n ∧ (pd_ic D t).toNatClampNeg = n ∧ ∀ i, i < n → ∃ c, c < 152 ∧ pd_co D (3 * t + i) = nI c := by
  obtain ⟨n, m, _, hn, _, hm3, en, em, hc, _⟩ := w.2.2.2.2.1 _ ht
  refine ⟨n, hn, en, pd_cl en (by omega), fun i hi => ?_⟩
  obtain ⟨c, h1, h2, _⟩ := hc i hi
  exact ⟨c, h1, h2⟩
section
variable {f_stackSize f_transactions f_putCount f_blocks f_tip f_poolCount f_queueCount : Int32} {a_tokenCount a_tokenOp a_tokenValue a_scriptInUse a_stack a_inputCount a_inputCoin a_inputA a_inputB a_outputCount a_outputAmount a_outputScript a_feeOf a_putRow a_parentOf a_heightOf a_chainWork a_blockState a_rewardAmount a_rewardScript a_blockSize a_blockTransaction a_laidBlock a_coinHeight a_coinSpent a_transactionHeight a_poolRow a_marked a_queue : Nat → Int32}
theorem xq_hasInput {t n : Nat} {x : Int32} (ht : t < 41) (hn : n ≤ 3) (en : a_inputCount t = nI n) {post : Int32 → Prop} (H1 : (∃ i, i < n ∧ a_inputCoin (3 * t + i) = x) → post 1) (H0 : ¬ (∃ i, i < n ∧ a_inputCoin (3 * t + i) = x) → post 0) : wpX_hasInput post (f_stackSize, f_transactions, f_putCount, f_blocks, f_tip, f_poolCount, f_queueCount, a_tokenCount, a_tokenOp, a_tokenValue, a_scriptInUse, a_stack, a_inputCount, a_inputCoin, a_inputA, a_inputB, a_outputCount, a_outputAmount, a_outputScript, a_feeOf, a_putRow, a_parentOf, a_heightOf, a_chainWork, a_blockState, a_rewardAmount, a_rewardScript, a_blockSize, a_blockTransaction, a_laidBlock, a_coinHeight, a_coinSpent, a_transactionHeight, a_poolRow, a_marked, a_queue) (nI t) x := by
  have enc : a_inputCount (nI t).toNatClampNeg = nI n := by rw [pk_cl t]; exact en
  have key : ∀ (d i fuel : Nat), i + d = n → d < fuel → (∀ k, k < i → a_inputCoin (3 * t + k) ≠ x) → wX_hasInput_2 post (nI t) x f_stackSize f_transactions f_putCount f_blocks f_tip f_poolCount f_queueCount a_tokenCount a_tokenOp a_tokenValue a_scriptInUse a_stack a_inputCount a_inputCoin a_inputA a_inputB a_outputCount a_outputAmount a_outputScript a_feeOf a_putRow a_parentOf a_heightOf a_chainWork a_blockState a_rewardAmount a_rewardScript a_blockSize a_blockTransaction a_laidBlock a_coinHeight a_coinSpent a_transactionHeight a_poolRow a_marked a_queue fuel (nI i) := by
    intro d
    induction d with
    | zero =>
      intro i fuel hi hf hk
      obtain ⟨fuel, rfl⟩ : ∃ q, fuel = q + 1 := ⟨fuel - 1, by omega⟩
      obtain rfl : i = n := by omega
      exact ⟨pk_in t 41 ht, br_t (by rw [enc]; exact nI_le (Nat.le_refl _) (by omega)) (H0 fun ⟨k, h1, h2⟩ => hk k h1 h2)⟩
    | succ d ih =>
      intro i fuel hi hf hk
      obtain ⟨fuel, rfl⟩ : ∃ q, fuel = q + 1 := ⟨fuel - 1, by omega⟩
      refine ⟨pk_in t 41 ht, pk_le n i (fun z => by omega) (fun z => ⟨pk_in (3 * t + i) 123 (by omega) (xb_3 t i), ?_⟩) enc⟩
      rw [pk_cl (3 * t + i) (xb_3 t i)]
      refine br_c (fun q => H1 ⟨i, by omega, q⟩) (fun q => nm_r (nI_1 i) (ih (i + 1) fuel (by omega) (by omega) fun k hk' => ?_))
      by_cases e : k = i
      · rw [e]; exact q
      · exact hk k (by omega)
  exact ⟨n + 1, key n 0 (n + 1) (by omega) (by omega) (fun k hk => by omega)⟩
theorem xq_needs {made blocks t u : Nat} (w : pd_wf (a_tokenCount, a_tokenOp, a_tokenValue, a_inputCount, a_inputCoin, a_inputA, a_inputB, a_outputCount, a_outputAmount, a_outputScript, a_parentOf, a_heightOf, a_rewardScript, a_blockSize, a_blockTransaction, a_feeOf, a_rewardAmount) made blocks) (ht : t < made) (hu : u < 40) {post : Int32 → Prop} (H1 : pd_needs (a_tokenCount, a_tokenOp, a_tokenValue, a_inputCount, a_inputCoin, a_inputA, a_inputB, a_outputCount, a_outputAmount, a_outputScript, a_parentOf, a_heightOf, a_rewardScript, a_blockSize, a_blockTransaction, a_feeOf, a_rewardAmount) t u → post 1) (H0 : ¬ pd_needs (a_tokenCount, a_tokenOp, a_tokenValue, a_inputCount, a_inputCoin, a_inputA, a_inputB, a_outputCount, a_outputAmount, a_outputScript, a_parentOf, a_heightOf, a_rewardScript, a_blockSize, a_blockTransaction, a_feeOf, a_rewardAmount) t u → post 0) : wpX_hasOutputOf post (f_stackSize, f_transactions, f_putCount, f_blocks, f_tip, f_poolCount, f_queueCount, a_tokenCount, a_tokenOp, a_tokenValue, a_scriptInUse, a_stack, a_inputCount, a_inputCoin, a_inputA, a_inputB, a_outputCount, a_outputAmount, a_outputScript, a_feeOf, a_putRow, a_parentOf, a_heightOf, a_chainWork, a_blockState, a_rewardAmount, a_rewardScript, a_blockSize, a_blockTransaction, a_laidBlock, a_coinHeight, a_coinSpent, a_transactionHeight, a_poolRow, a_marked, a_queue) (nI t) (nI u) := by
  have hm := w.2.2.1
  obtain ⟨n, hn, en, enk, hc⟩ := pd_view w ht
  have enc : a_inputCount (nI t).toNatClampNeg = nI n := by rw [pk_cl t]; exact en
  unfold pd_needs at H1 H0
  rw [enk] at H1 H0
  have key : ∀ (d i fuel : Nat), i + d = n → d < fuel → (∀ k, k < i → ¬ ((pd_co (a_tokenCount, a_tokenOp, a_tokenValue, a_inputCount, a_inputCoin, a_inputA, a_inputB, a_outputCount, a_outputAmount, a_outputScript, a_parentOf, a_heightOf, a_rewardScript, a_blockSize, a_blockTransaction, a_feeOf, a_rewardAmount) (3 * t + k)).toNatClampNeg < 120 ∧ (pd_co (a_tokenCount, a_tokenOp, a_tokenValue, a_inputCount, a_inputCoin, a_inputA, a_inputB, a_outputCount, a_outputAmount, a_outputScript, a_parentOf, a_heightOf, a_rewardScript, a_blockSize, a_blockTransaction, a_feeOf, a_rewardAmount) (3 * t + k)).toNatClampNeg / 3 = u)) → wX_hasOutputOf_2 post (nI t) (nI u) f_stackSize f_transactions f_putCount f_blocks f_tip f_poolCount f_queueCount a_tokenCount a_tokenOp a_tokenValue a_scriptInUse a_stack a_inputCount a_inputCoin a_inputA a_inputB a_outputCount a_outputAmount a_outputScript a_feeOf a_putRow a_parentOf a_heightOf a_chainWork a_blockState a_rewardAmount a_rewardScript a_blockSize a_blockTransaction a_laidBlock a_coinHeight a_coinSpent a_transactionHeight a_poolRow a_marked a_queue fuel (nI i) := by
    intro d
    induction d with
    | zero =>
      intro i fuel hi hf hk
      obtain ⟨fuel, rfl⟩ : ∃ q, fuel = q + 1 := ⟨fuel - 1, by omega⟩
      obtain rfl : i = n := by omega
      exact ⟨pk_in t 41 (by omega), br_t (by rw [enc]; exact nI_le (Nat.le_refl _) (by omega)) (H0 fun ⟨k, h1, h2⟩ => hk k h1 h2)⟩
    | succ d ih =>
      intro i fuel hi hf hk
      obtain ⟨fuel, rfl⟩ : ∃ q, fuel = q + 1 := ⟨fuel - 1, by omega⟩
      obtain ⟨c, hc1, hc2⟩ := hc i (by omega)
      have ecc : (pd_co (a_tokenCount, a_tokenOp, a_tokenValue, a_inputCount, a_inputCoin, a_inputA, a_inputB, a_outputCount, a_outputAmount, a_outputScript, a_parentOf, a_heightOf, a_rewardScript, a_blockSize, a_blockTransaction, a_feeOf, a_rewardAmount) (3 * t + i)).toNatClampNeg = c := pd_cl hc2 (by omega)
      have nxt : ¬ (c < 120 ∧ c / 3 = u) → wX_hasOutputOf_2 post (nI t) (nI u) f_stackSize f_transactions f_putCount f_blocks f_tip f_poolCount f_queueCount a_tokenCount a_tokenOp a_tokenValue a_scriptInUse a_stack a_inputCount a_inputCoin a_inputA a_inputB a_outputCount a_outputAmount a_outputScript a_feeOf a_putRow a_parentOf a_heightOf a_chainWork a_blockState a_rewardAmount a_rewardScript a_blockSize a_blockTransaction a_laidBlock a_coinHeight a_coinSpent a_transactionHeight a_poolRow a_marked a_queue fuel (nI (i + 1)) := fun q => ih (i + 1) fuel (by omega) (by omega) fun k hk' => by
        by_cases e : k = i
        · subst e; rw [ecc]; exact q
        · exact hk k (by omega)
      refine ⟨pk_in t 41 (by omega), pk_le n i (fun z => by omega) (fun z => ⟨pk_in (3 * t + i) 123 (by omega) (xb_3 t i), nm_r ((congrArg a_inputCoin (pk_cl (3 * t + i) (xb_3 t i))).trans hc2) ?_⟩) enc⟩
      refine pk_le 120 c (fun z1 => nm_r (nI_1 i) (nxt fun q => by omega)) (fun z1 => ⟨by decide, pk_eq (c / 3) u (fun e => H1 ⟨i, by omega, by rw [ecc]; exact ⟨z1, e⟩⟩) (fun e => nm_r (nI_1 i) (nxt fun q => e q.2)) (xb_d3 hc1)⟩)
  exact ⟨n + 1, key n 0 (n + 1) (by omega) (by omega) (fun k hk => by omega)⟩
theorem xq_share {made blocks t u : Nat} (w : pd_wf (a_tokenCount, a_tokenOp, a_tokenValue, a_inputCount, a_inputCoin, a_inputA, a_inputB, a_outputCount, a_outputAmount, a_outputScript, a_parentOf, a_heightOf, a_rewardScript, a_blockSize, a_blockTransaction, a_feeOf, a_rewardAmount) made blocks) (ht : t < made) (hu : u < made) {post : Int32 → Prop} (H1 : pd_share (a_tokenCount, a_tokenOp, a_tokenValue, a_inputCount, a_inputCoin, a_inputA, a_inputB, a_outputCount, a_outputAmount, a_outputScript, a_parentOf, a_heightOf, a_rewardScript, a_blockSize, a_blockTransaction, a_feeOf, a_rewardAmount) t u → post 1) (H0 : ¬ pd_share (a_tokenCount, a_tokenOp, a_tokenValue, a_inputCount, a_inputCoin, a_inputA, a_inputB, a_outputCount, a_outputAmount, a_outputScript, a_parentOf, a_heightOf, a_rewardScript, a_blockSize, a_blockTransaction, a_feeOf, a_rewardAmount) t u → post 0) : wpX_sharesInput post (f_stackSize, f_transactions, f_putCount, f_blocks, f_tip, f_poolCount, f_queueCount, a_tokenCount, a_tokenOp, a_tokenValue, a_scriptInUse, a_stack, a_inputCount, a_inputCoin, a_inputA, a_inputB, a_outputCount, a_outputAmount, a_outputScript, a_feeOf, a_putRow, a_parentOf, a_heightOf, a_chainWork, a_blockState, a_rewardAmount, a_rewardScript, a_blockSize, a_blockTransaction, a_laidBlock, a_coinHeight, a_coinSpent, a_transactionHeight, a_poolRow, a_marked, a_queue) (nI t) (nI u) := by
  have hm := w.2.2.1
  obtain ⟨n, hn, en, enk, hc⟩ := pd_view w ht
  obtain ⟨n', hn', en', enk', hc'⟩ := pd_view w hu
  have enc : a_inputCount (nI t).toNatClampNeg = nI n := by rw [pk_cl t]; exact en
  unfold pd_share at H1 H0
  rw [enk, enk'] at H1 H0
  have key : ∀ (d i fuel : Nat), i + d = n → d < fuel → (∀ k, k < i → ¬ ∃ j, j < n' ∧ a_inputCoin (3 * u + j) = a_inputCoin (3 * t + k)) → wX_sharesInput_2 post (nI t) (nI u) f_stackSize f_transactions f_putCount f_blocks f_tip f_poolCount f_queueCount a_tokenCount a_tokenOp a_tokenValue a_scriptInUse a_stack a_inputCount a_inputCoin a_inputA a_inputB a_outputCount a_outputAmount a_outputScript a_feeOf a_putRow a_parentOf a_heightOf a_chainWork a_blockState a_rewardAmount a_rewardScript a_blockSize a_blockTransaction a_laidBlock a_coinHeight a_coinSpent a_transactionHeight a_poolRow a_marked a_queue fuel (nI i) := by
    intro d
    induction d with
    | zero =>
      intro i fuel hi hf hk
      obtain ⟨fuel, rfl⟩ : ∃ q, fuel = q + 1 := ⟨fuel - 1, by omega⟩
      obtain rfl : i = n := by omega
      exact ⟨pk_in t 41 (by omega), br_t (by rw [enc]; exact nI_le (Nat.le_refl _) (by omega)) (H0 fun ⟨k, j, h1, h2, h3⟩ => hk k h1 ⟨j, h2, h3.symm⟩)⟩
    | succ d ih =>
      intro i fuel hi hf hk
      obtain ⟨fuel, rfl⟩ : ∃ q, fuel = q + 1 := ⟨fuel - 1, by omega⟩
      refine ⟨pk_in t 41 (by omega), pk_le n i (fun z => by omega) (fun z => ⟨pk_in (3 * t + i) 123 (by omega) (xb_3 t i), ?_⟩) enc⟩
      rw [pk_cl (3 * t + i) (xb_3 t i)]
      refine xq_hasInput (by omega) hn' en' (fun q => ?_) (fun q => br_t rfl (nm_r (nI_1 i) (ih (i + 1) fuel (by omega) (by omega) fun k hk' => ?_)))
      · obtain ⟨j, h1, h2⟩ := q
        exact br_f (by decide) (H1 ⟨i, j, by omega, h1, h2.symm⟩)
      · by_cases e : k = i
        · rw [e]; exact q
        · exact hk k (by omega)
  exact ⟨n + 1, key n 0 (n + 1) (by omega) (by omega) (fun k hk => by omega)⟩
end
section
variable {g_made g_blocks g_arrivals g_tip g_pooled g_chainLength : Int32} {b_op b_arg b_length b_ins b_inCoin b_inA b_inB b_outs b_amount b_lock b_parent b_work b_rewardLock b_height b_many b_holds b_delivered b_arrived b_pool b_chain b_from b_worth b_within b_spent b_stack b_again b_chosen gfe grw : Nat → Int32}
theorem yq_pooled {np : Nat} (hnp : np ≤ 12) (ep : g_pooled = nI np) {x : Int32} {post : Int32 → Prop} (H1 : (∃ k, k < np ∧ b_pool k = x) → post 1) (H0 : ¬ (∃ k, k < np ∧ b_pool k = x) → post 0) : wpY_isPooled post (g_made, g_blocks, g_arrivals, g_tip, g_pooled, g_chainLength, b_op, b_arg, b_length, b_ins, b_inCoin, b_inA, b_inB, b_outs, b_amount, b_lock, b_parent, b_work, b_rewardLock, b_height, b_many, b_holds, b_delivered, b_arrived, b_pool, b_chain, b_from, b_worth, b_within, b_spent, b_stack, b_again, b_chosen) x := by
  subst ep
  have key : ∀ (d i fuel : Nat), i + d = np → d < fuel → (∀ k, k < i → b_pool k ≠ x) → wY_isPooled_2 post x g_made g_blocks g_arrivals g_tip (nI np) g_chainLength b_op b_arg b_length b_ins b_inCoin b_inA b_inB b_outs b_amount b_lock b_parent b_work b_rewardLock b_height b_many b_holds b_delivered b_arrived b_pool b_chain b_from b_worth b_within b_spent b_stack b_again b_chosen fuel (nI i) := by
    intro d
    induction d with
    | zero =>
      intro i fuel hi hf hk
      obtain ⟨fuel, rfl⟩ : ∃ q, fuel = q + 1 := ⟨fuel - 1, by omega⟩
      obtain rfl : i = np := by omega
      exact br_t (nI_le (Nat.le_refl _) (by omega)) (H0 fun ⟨k, h1, h2⟩ => hk k h1 h2)
    | succ d ih =>
      intro i fuel hi hf hk
      obtain ⟨fuel, rfl⟩ : ∃ q, fuel = q + 1 := ⟨fuel - 1, by omega⟩
      refine pk_le np i (fun z => by omega) (fun z => ⟨pk_in i 12 (by omega), ?_⟩)
      rw [pk_cl i]
      refine br_c (fun q => H1 ⟨i, by omega, q⟩) (fun q => nm_r (nI_1 i) (ih (i + 1) fuel (by omega) (by omega) fun k hk' => ?_))
      by_cases e : k = i
      · rw [e]; exact q
      · exact hk k (by omega)
  exact ⟨np + 1, key np 0 (np + 1) (by omega) (by omega) (fun k hk => by omega)⟩
theorem yq_needs {made blocks t u : Nat} (w : pd_wf (b_length, b_op, b_arg, b_ins, b_inCoin, b_inA, b_inB, b_outs, b_amount, b_lock, b_parent, b_height, b_rewardLock, b_many, b_holds, gfe, grw) made blocks) (ht : t < made) (hu : u < 40) {post : Int32 → Prop} (H1 : pd_needs (b_length, b_op, b_arg, b_ins, b_inCoin, b_inA, b_inB, b_outs, b_amount, b_lock, b_parent, b_height, b_rewardLock, b_many, b_holds, gfe, grw) t u → post 1) (H0 : ¬ pd_needs (b_length, b_op, b_arg, b_ins, b_inCoin, b_inA, b_inB, b_outs, b_amount, b_lock, b_parent, b_height, b_rewardLock, b_many, b_holds, gfe, grw) t u → post 0) : wpY_needs post (g_made, g_blocks, g_arrivals, g_tip, g_pooled, g_chainLength, b_op, b_arg, b_length, b_ins, b_inCoin, b_inA, b_inB, b_outs, b_amount, b_lock, b_parent, b_work, b_rewardLock, b_height, b_many, b_holds, b_delivered, b_arrived, b_pool, b_chain, b_from, b_worth, b_within, b_spent, b_stack, b_again, b_chosen) (nI t) (nI u) := by
  have hm := w.2.2.1
  obtain ⟨n, hn, en, enk, hc⟩ := pd_view w ht
  have en' : b_ins t = nI n := en
  have e3 : 3 * nI t + b_ins (nI t).toNatClampNeg = nI (3 * t + n) := by rw [pk_cl t, en']; exact yb_3 t n
  unfold pd_needs at H1 H0
  rw [enk] at H1 H0
  have key : ∀ (d i fuel : Nat), i + d = n → d < fuel → (∀ k, k < i → ¬ ((pd_co (b_length, b_op, b_arg, b_ins, b_inCoin, b_inA, b_inB, b_outs, b_amount, b_lock, b_parent, b_height, b_rewardLock, b_many, b_holds, gfe, grw) (3 * t + k)).toNatClampNeg < 120 ∧ (pd_co (b_length, b_op, b_arg, b_ins, b_inCoin, b_inA, b_inB, b_outs, b_amount, b_lock, b_parent, b_height, b_rewardLock, b_many, b_holds, gfe, grw) (3 * t + k)).toNatClampNeg / 3 = u)) → wY_needs_4 post (nI t) (nI u) g_made g_blocks g_arrivals g_tip g_pooled g_chainLength b_op b_arg b_length b_ins b_inCoin b_inA b_inB b_outs b_amount b_lock b_parent b_work b_rewardLock b_height b_many b_holds b_delivered b_arrived b_pool b_chain b_from b_worth b_within b_spent b_stack b_again b_chosen fuel (nI (3 * t + i)) := by
    intro d
    induction d with
    | zero =>
      intro i fuel hi hf hk
      obtain ⟨fuel, rfl⟩ : ∃ q, fuel = q + 1 := ⟨fuel - 1, by omega⟩
      obtain rfl : i = n := by omega
      exact ⟨pk_in t 41 (by omega), br_t (by rw [e3]; exact nI_le (Nat.le_refl _) (by omega)) (H0 fun ⟨k, h1, h2⟩ => hk k h1 h2)⟩
    | succ d ih =>
      intro i fuel hi hf hk
      obtain ⟨fuel, rfl⟩ : ∃ q, fuel = q + 1 := ⟨fuel - 1, by omega⟩
      obtain ⟨c, hc1, hc2⟩ := hc i (by omega)
      have ecc : (pd_co (b_length, b_op, b_arg, b_ins, b_inCoin, b_inA, b_inB, b_outs, b_amount, b_lock, b_parent, b_height, b_rewardLock, b_many, b_holds, gfe, grw) (3 * t + i)).toNatClampNeg = c := pd_cl hc2 (by omega)
      have nxt : ¬ (c < 120 ∧ c / 3 = u) → wY_needs_4 post (nI t) (nI u) g_made g_blocks g_arrivals g_tip g_pooled g_chainLength b_op b_arg b_length b_ins b_inCoin b_inA b_inB b_outs b_amount b_lock b_parent b_work b_rewardLock b_height b_many b_holds b_delivered b_arrived b_pool b_chain b_from b_worth b_within b_spent b_stack b_again b_chosen fuel (nI (3 * t + i + 1)) := fun q => ih (i + 1) fuel (by omega) (by omega) fun k hk' => by
        by_cases e : k = i
        · subst e; rw [ecc]; exact q
        · exact hk k (by omega)
      have ex : b_inCoin (nI (3 * t + i)).toNatClampNeg = nI c := (congrArg b_inCoin (pk_cl (3 * t + i))).trans hc2
      refine ⟨pk_in t 41 (by omega), pk_le (3 * t + n) (3 * t + i) (fun z => by omega) (fun z => ⟨pk_in (3 * t + i) 123 (by omega), ?_⟩) e3⟩
      rw [ex]
      refine pk_le 120 c (fun z1 => nm_r (nI_1 (3 * t + i)) (nxt fun q => by omega)) (fun z1 => ⟨pk_in (3 * t + i) 123 (by omega), by decide, pk_eq (c / 3) u (fun e => H1 ⟨i, by omega, by rw [ecc]; exact ⟨z1, e⟩⟩) (fun e => nm_r (nI_1 (3 * t + i)) (nxt fun q => e q.2)) (xb_d3 hc1)⟩)
  exact nm_r (yb_30 t) ⟨n + 1, key n 0 (n + 1) (by omega) (by omega) (fun k hk => by omega)⟩
theorem yq_share {made blocks t u : Nat} (w : pd_wf (b_length, b_op, b_arg, b_ins, b_inCoin, b_inA, b_inB, b_outs, b_amount, b_lock, b_parent, b_height, b_rewardLock, b_many, b_holds, gfe, grw) made blocks) (ht : t < made) (hu : u < made) {post : Int32 → Prop} (H1 : pd_share (b_length, b_op, b_arg, b_ins, b_inCoin, b_inA, b_inB, b_outs, b_amount, b_lock, b_parent, b_height, b_rewardLock, b_many, b_holds, gfe, grw) t u → post 1) (H0 : ¬ pd_share (b_length, b_op, b_arg, b_ins, b_inCoin, b_inA, b_inB, b_outs, b_amount, b_lock, b_parent, b_height, b_rewardLock, b_many, b_holds, gfe, grw) t u → post 0) : wpY_share post (g_made, g_blocks, g_arrivals, g_tip, g_pooled, g_chainLength, b_op, b_arg, b_length, b_ins, b_inCoin, b_inA, b_inB, b_outs, b_amount, b_lock, b_parent, b_work, b_rewardLock, b_height, b_many, b_holds, b_delivered, b_arrived, b_pool, b_chain, b_from, b_worth, b_within, b_spent, b_stack, b_again, b_chosen) (nI t) (nI u) := by
  have hm := w.2.2.1
  obtain ⟨n, hn, en, enk, hc⟩ := pd_view w ht
  obtain ⟨n', hn', en2, enk', hc'⟩ := pd_view w hu
  have en' : b_ins t = nI n := en
  have en2' : b_ins u = nI n' := en2
  have e3 : 3 * nI t + b_ins (nI t).toNatClampNeg = nI (3 * t + n) := by rw [pk_cl t, en']; exact yb_3 t n
  have e3' : 3 * nI u + b_ins (nI u).toNatClampNeg = nI (3 * u + n') := by rw [pk_cl u, en2']; exact yb_3 u n'
  unfold pd_share at H1 H0
  rw [enk, enk'] at H1 H0
  have inner : ∀ (J : Int32 → Prop) (i : Nat), i < n → ((¬ ∃ j, j < n' ∧ b_inCoin (3 * t + i) = b_inCoin (3 * u + j)) → J (nI (3 * t + i + 1))) → ∀ (d j fuel : Nat), j + d = n' → d < fuel → (∀ k, k < j → b_inCoin (3 * t + i) ≠ b_inCoin (3 * u + k)) → wY_share_23 post J (nI t) (nI u) (nI (3 * t + i)) g_made g_blocks g_arrivals g_tip g_pooled g_chainLength b_op b_arg b_length b_ins b_inCoin b_inA b_inB b_outs b_amount b_lock b_parent b_work b_rewardLock b_height b_many b_holds b_delivered b_arrived b_pool b_chain b_from b_worth b_within b_spent b_stack b_again b_chosen fuel (nI (3 * u + j)) := by
    intro J i hi HJ d
    induction d with
    | zero =>
      intro j fuel hj hf hk
      obtain ⟨fuel, rfl⟩ : ∃ q, fuel = q + 1 := ⟨fuel - 1, by omega⟩
      obtain rfl : j = n' := by omega
      exact ⟨pk_in u 41 (by omega), br_t (by rw [e3']; exact nI_le (Nat.le_refl _) (by omega)) (nm_r (nI_1 (3 * t + i)) (HJ fun ⟨k, h1, h2⟩ => hk k h1 h2))⟩
    | succ d ih =>
      intro j fuel hj hf hk
      obtain ⟨fuel, rfl⟩ : ∃ q, fuel = q + 1 := ⟨fuel - 1, by omega⟩
      refine ⟨pk_in u 41 (by omega), pk_le (3 * u + n') (3 * u + j) (fun z => by omega) (fun z => ⟨pk_in (3 * t + i) 123 (by omega), pk_in (3 * u + j) 123 (by omega), ?_⟩) e3'⟩
      rw [pk_cl (x := nI (3 * t + i)) (3 * t + i), pk_cl (x := nI (3 * u + j)) (3 * u + j)]
      refine br_c (fun q => H1 ⟨i, j, hi, by omega, q⟩) (fun q => nm_r (nI_1 (3 * u + j)) (ih (j + 1) fuel (by omega) (by omega) fun k hk' => ?_))
      by_cases e : k = j
      · rw [e]; exact q
      · exact hk k (by omega)
  have key : ∀ (d i fuel : Nat), i + d = n → d < fuel → (∀ k, k < i → ¬ ∃ j, j < n' ∧ b_inCoin (3 * t + k) = b_inCoin (3 * u + j)) → wY_share_4 post (nI t) (nI u) g_made g_blocks g_arrivals g_tip g_pooled g_chainLength b_op b_arg b_length b_ins b_inCoin b_inA b_inB b_outs b_amount b_lock b_parent b_work b_rewardLock b_height b_many b_holds b_delivered b_arrived b_pool b_chain b_from b_worth b_within b_spent b_stack b_again b_chosen fuel (nI (3 * t + i)) := by
    intro d
    induction d with
    | zero =>
      intro i fuel hi hf hk
      obtain ⟨fuel, rfl⟩ : ∃ q, fuel = q + 1 := ⟨fuel - 1, by omega⟩
      obtain rfl : i = n := by omega
      exact ⟨pk_in t 41 (by omega), br_t (by rw [e3]; exact nI_le (Nat.le_refl _) (by omega)) (H0 fun ⟨k, j, h1, h2, h3⟩ => hk k h1 ⟨j, h2, h3⟩)⟩
    | succ d ih =>
      intro i fuel hi hf hk
      obtain ⟨fuel, rfl⟩ : ∃ q, fuel = q + 1 := ⟨fuel - 1, by omega⟩
      refine ⟨pk_in t 41 (by omega), pk_le (3 * t + n) (3 * t + i) (fun z => by omega) (fun z => nm_r (yb_30 u) ⟨n' + 1, inner _ i (by omega) (fun q => ih (i + 1) fuel (by omega) (by omega) fun k hk' => ?_) n' 0 (n' + 1) (by omega) (by omega) (fun k hk => by omega)⟩) e3⟩
      by_cases e : k = i
      · rw [e]; exact q
      · exact hk k (by omega)
  exact nm_r (yb_30 t) ⟨n + 1, key n 0 (n + 1) (by omega) (by omega) (fun k hk => by omega)⟩
theorem yq_fee {made blocks t : Nat} (w : pd_wf (b_length, b_op, b_arg, b_ins, b_inCoin, b_inA, b_inB, b_outs, b_amount, b_lock, b_parent, b_height, b_rewardLock, b_many, b_holds, gfe, grw) made blocks) (fq : pd_feq (b_length, b_op, b_arg, b_ins, b_inCoin, b_inA, b_inB, b_outs, b_amount, b_lock, b_parent, b_height, b_rewardLock, b_many, b_holds, gfe, grw) made) (ht : t < made) (hw : ∀ i, i < (pd_ic (b_length, b_op, b_arg, b_ins, b_inCoin, b_inA, b_inB, b_outs, b_amount, b_lock, b_parent, b_height, b_rewardLock, b_many, b_holds, gfe, grw) t).toNatClampNeg → 120 ≤ (b_inCoin (3 * t + i)).toNatClampNeg → b_worth (b_inCoin (3 * t + i)).toNatClampNeg = grw ((b_inCoin (3 * t + i)).toNatClampNeg - 120)) {post : Int32 → Prop} (H : post (gfe t)) : wpY_feeOf post (g_made, g_blocks, g_arrivals, g_tip, g_pooled, g_chainLength, b_op, b_arg, b_length, b_ins, b_inCoin, b_inA, b_inB, b_outs, b_amount, b_lock, b_parent, b_work, b_rewardLock, b_height, b_many, b_holds, b_delivered, b_arrived, b_pool, b_chain, b_from, b_worth, b_within, b_spent, b_stack, b_again, b_chosen) (nI t) := by
  have hmd := w.2.2.1
  obtain ⟨n, m, _, hn, _, hm3, en, em, hc, _⟩ := w.2.2.2.2.1 _ ht
  have en' : b_ins t = nI n := en
  have em' : b_outs t = nI m := em
  have enc : (pd_ic (b_length, b_op, b_arg, b_ins, b_inCoin, b_inA, b_inB, b_outs, b_amount, b_lock, b_parent, b_height, b_rewardLock, b_many, b_holds, gfe, grw) t).toNatClampNeg = n := pd_cl en (by omega)
  have emc : (pd_oc (b_length, b_op, b_arg, b_ins, b_inCoin, b_inA, b_inB, b_outs, b_amount, b_lock, b_parent, b_height, b_rewardLock, b_many, b_holds, gfe, grw) t).toNatClampNeg = m := pd_cl em (by omega)
  have e3 : 3 * nI t + b_ins (nI t).toNatClampNeg = nI (3 * t + n) := by rw [pk_cl t, en']; exact yb_3 t n
  have e3' : 3 * nI t + b_outs (nI t).toNatClampNeg = nI (3 * t + m) := by rw [pk_cl t, em']; exact yb_3 t m
  have efe : gfe t = pd_sout (pd_sin (pd_amt (b_length, b_op, b_arg, b_ins, b_inCoin, b_inA, b_inB, b_outs, b_amount, b_lock, b_parent, b_height, b_rewardLock, b_many, b_holds, gfe, grw)) b_inCoin (3 * t) n) b_amount (3 * t) m := by
    have := fq t ht
    rw [enc, emc] at this
    exact this
  rw [enc] at hw
  have L69 : ∀ (d i fuel : Nat), i + d = m → d < fuel → wY_feeOf_69 post (nI t) g_made g_blocks g_arrivals g_tip g_pooled g_chainLength b_op b_arg b_length b_ins b_inCoin b_inA b_inB b_outs b_amount b_lock b_parent b_work b_rewardLock b_height b_many b_holds b_delivered b_arrived b_pool b_chain b_from b_worth b_within b_spent b_stack b_again b_chosen fuel (pd_sout (pd_sin (pd_amt (b_length, b_op, b_arg, b_ins, b_inCoin, b_inA, b_inB, b_outs, b_amount, b_lock, b_parent, b_height, b_rewardLock, b_many, b_holds, gfe, grw)) b_inCoin (3 * t) n) b_amount (3 * t) i) (nI (3 * t + i)) := by
    intro d
    induction d with
    | zero =>
      intro i fuel hi hf
      obtain ⟨fuel, rfl⟩ : ∃ q, fuel = q + 1 := ⟨fuel - 1, by omega⟩
      obtain rfl : i = m := by omega
      rw [← efe]
      exact ⟨pk_in t 41 (by omega), br_t (by rw [e3']; exact nI_le (Nat.le_refl _) (by omega)) H⟩
    | succ d ih =>
      intro i fuel hi hf
      obtain ⟨fuel, rfl⟩ : ∃ q, fuel = q + 1 := ⟨fuel - 1, by omega⟩
      exact ⟨pk_in t 41 (by omega), pk_le (3 * t + m) (3 * t + i) (fun z => by omega) (fun z => ⟨pk_in (3 * t + i) 123 (by omega), nm_r (by rw [pk_cl (x := nI (3 * t + i)) (3 * t + i)] <;> rfl) (nm_r (nI_1 (3 * t + i)) (ih (i + 1) fuel (by omega) (by omega)))⟩) e3'⟩
  have L6 : ∀ (d i fuel : Nat), i + d = n → d < fuel → wY_feeOf_6 post (nI t) g_made g_blocks g_arrivals g_tip g_pooled g_chainLength b_op b_arg b_length b_ins b_inCoin b_inA b_inB b_outs b_amount b_lock b_parent b_work b_rewardLock b_height b_many b_holds b_delivered b_arrived b_pool b_chain b_from b_worth b_within b_spent b_stack b_again b_chosen fuel (pd_sin (pd_amt (b_length, b_op, b_arg, b_ins, b_inCoin, b_inA, b_inB, b_outs, b_amount, b_lock, b_parent, b_height, b_rewardLock, b_many, b_holds, gfe, grw)) b_inCoin (3 * t) i) (nI (3 * t + i)) := by
    intro d
    induction d with
    | zero =>
      intro i fuel hi hf
      obtain ⟨fuel, rfl⟩ : ∃ q, fuel = q + 1 := ⟨fuel - 1, by omega⟩
      obtain rfl : i = n := by omega
      exact ⟨pk_in t 41 (by omega), br_t (by rw [e3]; exact nI_le (Nat.le_refl _) (by omega)) (nm_r (yb_30 t) ⟨m + 1, L69 m 0 (m + 1) (by omega) (by omega)⟩)⟩
    | succ d ih =>
      intro i fuel hi hf
      obtain ⟨fuel, rfl⟩ : ∃ q, fuel = q + 1 := ⟨fuel - 1, by omega⟩
      obtain ⟨c, hc1, hc2, hc3⟩ := hc i (by omega)
      have hc2' : b_inCoin (3 * t + i) = nI c := hc2
      have hwi := hw i (by omega)
      have ecx : (nI c).toNatClampNeg = c := pk_cl c
      rw [hc2', ecx] at hwi
      have ex : b_inCoin (nI (3 * t + i)).toNatClampNeg = nI c := (congrArg b_inCoin (pk_cl (3 * t + i))).trans hc2
      refine ⟨pk_in t 41 (by omega), pk_le (3 * t + n) (3 * t + i) (fun z => by omega) (fun z => ⟨pk_in (3 * t + i) 123 (by omega), ?_⟩) e3⟩
      rw [ex, ecx]
      refine pk_le 120 c (fun z1 => ⟨pk_in (3 * t + i) 123 (by omega), pk_in c 152 hc1, nm_r (e' := pd_sin (pd_amt (b_length, b_op, b_arg, b_ins, b_inCoin, b_inA, b_inB, b_outs, b_amount, b_lock, b_parent, b_height, b_rewardLock, b_many, b_holds, gfe, grw)) b_inCoin (3 * t) (i + 1)) ?_ (nm_r (nI_1 (3 * t + i)) (ih (i + 1) fuel (by omega) (by omega)))⟩) (fun z1 => ⟨pk_in (3 * t + i) 123 (by omega), pk_in c 123 (by omega), nm_r (e' := pd_sin (pd_amt (b_length, b_op, b_arg, b_ins, b_inCoin, b_inA, b_inB, b_outs, b_amount, b_lock, b_parent, b_height, b_rewardLock, b_many, b_holds, gfe, grw)) b_inCoin (3 * t) (i + 1)) ?_ (nm_r (nI_1 (3 * t + i)) (ih (i + 1) fuel (by omega) (by omega)))⟩)
      · rw [pd_sin, hc2', ecx, hwi z1]
        have : pd_amt (b_length, b_op, b_arg, b_ins, b_inCoin, b_inA, b_inB, b_outs, b_amount, b_lock, b_parent, b_height, b_rewardLock, b_many, b_holds, gfe, grw) c = grw (c - 120) := if_neg (by omega)
        rw [this]
      · rw [pd_sin, hc2', ecx]
        have : pd_amt (b_length, b_op, b_arg, b_ins, b_inCoin, b_inA, b_inB, b_outs, b_amount, b_lock, b_parent, b_height, b_rewardLock, b_many, b_holds, gfe, grw) c = b_amount c := if_pos z1
        rw [this]
  exact nm_r (yb_30 t) ⟨n + 1, L6 n 0 (n + 1) (by omega) (by omega)⟩
end
end
section
/-! rivals: X's one pass, Y's closure -/
def pd_pl (pl : pd_F) (np made : Nat) : Prop := ∀ k, k < np → ∃ u, u < made ∧ pl k = nI u
def pd_ms (D : pd_D) (pl : pd_F) (np t : Nat) (mk : pd_F) : Prop := ∀ k, k < np → (mk k = 0 ∨ mk k = 1) ∧ (mk k = 1 ↔ (pd_share D t (pl k).toNatClampNeg ∨ ∃ j, j < k ∧ mk j = 1 ∧ pd_needs D (pl k).toNatClampNeg (pl j).toNatClampNeg))
def pd_mf (mk fe pl : pd_F) : Nat → Int32
  | 0 => 0
  | k + 1 => if mk k = 0 then pd_mf mk fe pl k else pd_mf mk fe pl k + fe (pl k).toNatClampNeg
def pd_rm (mk pl : pd_F) : Nat → pd_F × Nat
  | 0 => (pl, 0)
  | k + 1 => if mk k = 0 then (upd (pd_rm mk pl k).1 (pd_rm mk pl k).2 ((pd_rm mk pl k).1 k), (pd_rm mk pl k).2 + 1) else pd_rm mk pl k
theorem pd_rm_le (mk pl : pd_F) : ∀ k, (pd_rm mk pl k).2 ≤ k := by
  intro k
  induction k with
  | zero => exact Nat.le_refl _
  | succ k ih =>
    rw [pd_rm]
    split
    · show (pd_rm mk pl k).2 + 1 ≤ k + 1; omega
    · omega
theorem pd_ms_ag {D E : pd_D} {made blocks t np : Nat} {pl mk : pd_F} (w : pd_wf D made blocks) (a : pd_ag D E made blocks) (ht : t < made) (hp : pd_pl pl np made) (m : pd_ms D pl np t mk) : pd_ms E pl np t mk := by
  intro k hk
  obtain ⟨h1, h2⟩ := m k hk
  refine ⟨h1, h2.trans ?_⟩
  obtain ⟨u, hu, eu⟩ := hp k hk
  have := w.2.2.1
  have euc := pd_cl eu (by omega)
  rw [euc]
  refine or_congr (pd_ag_share a ht hu).symm (exists_congr fun j => and_congr_right fun _ => and_congr_right fun _ => (pd_ag_needs a hu).symm)
theorem yb_one (i : Nat) : bt 1 i = decide (i = 0) := by
  rcases Nat.lt_or_ge i 32 with h | h
  · exact (by decide +kernel : ∀ i, i < 32 → bt 1 i = decide (i = 0)) i h
  · rw [b_big h, decide_eq_false (by omega)]
theorem yb_bit (x : Int32) {k : Nat} (hk : k < 32) : (x >>> (nI k &&& 31)) &&& 1 = if bt x k = true then 1 else 0 := by
  refine b_ext fun i hi => ?_
  rw [b_and, yb_one, b_sshr k hk x hi]
  by_cases e : i = 0
  · subst e
    rw [if_pos (by omega), Nat.add_zero]
    by_cases q : bt x k = true
    · rw [if_pos q, q]; rfl
    · rw [if_neg q]
      have : bt x k = false := by cases h : bt x k with
        | true => exact (q h).elim
        | false => rfl
      rw [this]; rfl
  · rw [decide_eq_false e, Bool.and_false]
    split
    · rw [yb_one, decide_eq_false e]
    · rw [b_0]
theorem yb_bit1 (x : Int32) {k : Nat} (hk : k < 32) : ((x >>> (nI k &&& 31)) &&& 1 = 1) ↔ bt x k = true := by
  rw [yb_bit x hk]
  split
  · exact ⟨fun _ => ‹_›, fun _ => rfl⟩
  · exact ⟨fun z => absurd z (by decide), fun z => absurd z ‹_›⟩
theorem yb_bit0 (x : Int32) {k : Nat} (hk : k < 32) : ((x >>> (nI k &&& 31)) &&& 1 = 0) ↔ ¬ bt x k = true := by
  rw [yb_bit x hk]
  split
  · exact ⟨fun z => absurd z (by decide), fun z => absurd ‹_› z⟩
  · exact ⟨fun _ => ‹_›, fun _ => rfl⟩
theorem yb_or (x : Int32) {i j : Nat} (hi : i < 32) (hj : j < 32) : bt (x ||| ((1 : Int32) <<< (nI i &&& 31))) j = true ↔ (bt x j = true ∨ j = i) := by
  rw [b_or, b_shl i hi 1 hj, yb_one, Bool.or_eq_true, Bool.and_eq_true, decide_eq_true_iff, decide_eq_true_iff]
  refine or_congr Iff.rfl ⟨fun q => by omega, fun q => by omega⟩
section
variable {f_stackSize f_transactions f_putCount f_blocks f_tip f_poolCount f_queueCount : Int32} {a_tokenCount a_tokenOp a_tokenValue a_scriptInUse a_stack a_inputCount a_inputCoin a_inputA a_inputB a_outputCount a_outputAmount a_outputScript a_feeOf a_putRow a_parentOf a_heightOf a_chainWork a_blockState a_rewardAmount a_rewardScript a_blockSize a_blockTransaction a_laidBlock a_coinHeight a_coinSpent a_transactionHeight a_poolRow a_marked a_queue : Nat → Int32}
theorem xm_hasMarked {made blocks t np : Nat} (w : pd_wf (a_tokenCount, a_tokenOp, a_tokenValue, a_inputCount, a_inputCoin, a_inputA, a_inputB, a_outputCount, a_outputAmount, a_outputScript, a_parentOf, a_heightOf, a_rewardScript, a_blockSize, a_blockTransaction, a_feeOf, a_rewardAmount) made blocks) (ht : t < made) (hnp : np ≤ 12) (ep : f_poolCount = nI np) (hp : pd_pl a_poolRow np made) {post : Int32 → Prop} (H1 : (∃ j, j < np ∧ ¬ a_marked j = 0 ∧ pd_needs (a_tokenCount, a_tokenOp, a_tokenValue, a_inputCount, a_inputCoin, a_inputA, a_inputB, a_outputCount, a_outputAmount, a_outputScript, a_parentOf, a_heightOf, a_rewardScript, a_blockSize, a_blockTransaction, a_feeOf, a_rewardAmount) t (a_poolRow j).toNatClampNeg) → post 1) (H0 : ¬ (∃ j, j < np ∧ ¬ a_marked j = 0 ∧ pd_needs (a_tokenCount, a_tokenOp, a_tokenValue, a_inputCount, a_inputCoin, a_inputA, a_inputB, a_outputCount, a_outputAmount, a_outputScript, a_parentOf, a_heightOf, a_rewardScript, a_blockSize, a_blockTransaction, a_feeOf, a_rewardAmount) t (a_poolRow j).toNatClampNeg) → post 0) : wpX_hasMarkedOutput post (f_stackSize, f_transactions, f_putCount, f_blocks, f_tip, f_poolCount, f_queueCount, a_tokenCount, a_tokenOp, a_tokenValue, a_scriptInUse, a_stack, a_inputCount, a_inputCoin, a_inputA, a_inputB, a_outputCount, a_outputAmount, a_outputScript, a_feeOf, a_putRow, a_parentOf, a_heightOf, a_chainWork, a_blockState, a_rewardAmount, a_rewardScript, a_blockSize, a_blockTransaction, a_laidBlock, a_coinHeight, a_coinSpent, a_transactionHeight, a_poolRow, a_marked, a_queue) (nI t) := by
  have hm := w.2.2.1
  subst ep
  have key : ∀ (d i fuel : Nat), i + d = np → d < fuel → (∀ k, k < i → ¬ (¬ a_marked k = 0 ∧ pd_needs (a_tokenCount, a_tokenOp, a_tokenValue, a_inputCount, a_inputCoin, a_inputA, a_inputB, a_outputCount, a_outputAmount, a_outputScript, a_parentOf, a_heightOf, a_rewardScript, a_blockSize, a_blockTransaction, a_feeOf, a_rewardAmount) t (a_poolRow k).toNatClampNeg)) → wX_hasMarkedOutput_2 post (nI t) f_stackSize f_transactions f_putCount f_blocks f_tip (nI np) f_queueCount a_tokenCount a_tokenOp a_tokenValue a_scriptInUse a_stack a_inputCount a_inputCoin a_inputA a_inputB a_outputCount a_outputAmount a_outputScript a_feeOf a_putRow a_parentOf a_heightOf a_chainWork a_blockState a_rewardAmount a_rewardScript a_blockSize a_blockTransaction a_laidBlock a_coinHeight a_coinSpent a_transactionHeight a_poolRow a_marked a_queue fuel (nI i) := by
    intro d
    induction d with
    | zero =>
      intro i fuel hi hf hk
      obtain ⟨fuel, rfl⟩ : ∃ q, fuel = q + 1 := ⟨fuel - 1, by omega⟩
      obtain rfl : i = np := by omega
      exact br_t (nI_le (Nat.le_refl _) (by omega)) (H0 fun ⟨k, h1, h2⟩ => hk k h1 h2)
    | succ d ih =>
      intro i fuel hi hf hk
      obtain ⟨fuel, rfl⟩ : ∃ q, fuel = q + 1 := ⟨fuel - 1, by omega⟩
      obtain ⟨u, hu, eu⟩ := hp i (by omega)
      have euc := pd_cl eu (by omega)
      have nxt : ¬ (¬ a_marked i = 0 ∧ pd_needs (a_tokenCount, a_tokenOp, a_tokenValue, a_inputCount, a_inputCoin, a_inputA, a_inputB, a_outputCount, a_outputAmount, a_outputScript, a_parentOf, a_heightOf, a_rewardScript, a_blockSize, a_blockTransaction, a_feeOf, a_rewardAmount) t u) → wX_hasMarkedOutput_2 post (nI t) f_stackSize f_transactions f_putCount f_blocks f_tip (nI np) f_queueCount a_tokenCount a_tokenOp a_tokenValue a_scriptInUse a_stack a_inputCount a_inputCoin a_inputA a_inputB a_outputCount a_outputAmount a_outputScript a_feeOf a_putRow a_parentOf a_heightOf a_chainWork a_blockState a_rewardAmount a_rewardScript a_blockSize a_blockTransaction a_laidBlock a_coinHeight a_coinSpent a_transactionHeight a_poolRow a_marked a_queue fuel (nI (i + 1)) := fun q => ih (i + 1) fuel (by omega) (by omega) fun k hk' => by
        by_cases e : k = i
        · subst e; rw [euc]; exact q
        · exact hk k (by omega)
      refine pk_le np i (fun z => by omega) (fun z => ⟨pk_in i 12 (by omega), ?_⟩)
      rw [pk_cl i, eu]
      refine br_c (fun q => nm_r (nI_1 i) (nxt fun q' => q'.1 q)) (fun q => ⟨pk_in i 12 (by omega), xq_needs w ht (by omega) (fun z1 => br_f (by decide) (H1 ⟨i, by omega, q, by rw [euc]; exact z1⟩)) (fun z1 => br_t rfl (nm_r (nI_1 i) (nxt fun q' => z1 q'.2)))⟩)
  exact ⟨np + 1, key np 0 (np + 1) (by omega) (by omega) (fun k hk => by omega)⟩
theorem xm_mr70 {k : Nat} {x1 any z : Int32} (hk : k < 12) (hz : z = 0 ∨ z = 1) {post : Int32 → SX → Prop} {J : Int32 → Int32 → (Nat → Int32) → (Nat → Int32) → (Nat → Int32) → (Nat → Int32) → (Nat → Int32) → (Nat → Int32) → (Nat → Int32) → (Nat → Int32) → (Nat → Int32) → (Nat → Int32) → (Nat → Int32) → (Nat → Int32) → (Nat → Int32) → (Nat → Int32) → (Nat → Int32) → (Nat → Int32) → (Nat → Int32) → (Nat → Int32) → (Nat → Int32) → (Nat → Int32) → (Nat → Int32) → (Nat → Int32) → (Nat → Int32) → (Nat → Int32) → (Nat → Int32) → (Nat → Int32) → (Nat → Int32) → (Nat → Int32) → (Nat → Int32) → Prop} (H : J (if any = 0 then z else 1) (nI (k + 1)) a_tokenCount a_tokenOp a_tokenValue a_scriptInUse a_stack a_inputCount a_inputCoin a_inputA a_inputB a_outputCount a_outputAmount a_outputScript a_feeOf a_putRow a_parentOf a_heightOf a_chainWork a_blockState a_rewardAmount a_rewardScript a_blockSize a_blockTransaction a_laidBlock a_coinHeight a_coinSpent a_transactionHeight a_poolRow (upd a_marked k z) a_queue) : wX_markRivals_70 post J x1 any (nI k) z (nI k) f_stackSize f_transactions f_putCount f_blocks f_tip f_poolCount f_queueCount a_tokenCount a_tokenOp a_tokenValue a_scriptInUse a_stack a_inputCount a_inputCoin a_inputA a_inputB a_outputCount a_outputAmount a_outputScript a_feeOf a_putRow a_parentOf a_heightOf a_chainWork a_blockState a_rewardAmount a_rewardScript a_blockSize a_blockTransaction a_laidBlock a_coinHeight a_coinSpent a_transactionHeight a_poolRow a_marked a_queue := by
  have ez : vp_nar .boolean z = z := by rcases hz with rfl | rfl <;> rfl
  refine ⟨pk_in k 12 hk, nm_r (by rw [pk_cl k, ez]) ?_⟩
  by_cases h : any = 0
  · rw [if_pos h] at H
    refine br_t h ⟨pk_in k 12 hk, ?_⟩
    rw [pk_cl k, pk_us]
    rcases hz with rfl | rfl
    · exact br_t rfl (nm_r (nI_1 k) H)
    · exact br_f (by decide) (nm_r (nI_1 k) H)
  · rw [if_neg h] at H
    exact br_f h (nm_r (nI_1 k) H)
theorem xm_marks {made blocks t np : Nat} (w : pd_wf (a_tokenCount, a_tokenOp, a_tokenValue, a_inputCount, a_inputCoin, a_inputA, a_inputB, a_outputCount, a_outputAmount, a_outputScript, a_parentOf, a_heightOf, a_rewardScript, a_blockSize, a_blockTransaction, a_feeOf, a_rewardAmount) made blocks) (ht : t < made) (hnp : np ≤ 12) (ep : f_poolCount = nI np) (hp : pd_pl a_poolRow np made) {post : Int32 → SX → Prop}
    (H : ∀ (mk : Nat → Int32) (any : Int32), pd_ms (a_tokenCount, a_tokenOp, a_tokenValue, a_inputCount, a_inputCoin, a_inputA, a_inputB, a_outputCount, a_outputAmount, a_outputScript, a_parentOf, a_heightOf, a_rewardScript, a_blockSize, a_blockTransaction, a_feeOf, a_rewardAmount) a_poolRow np t mk → ((any = 0 ∧ ∀ k, k < np → mk k = 0) ∨ (any = 1 ∧ ∃ k, k < np ∧ mk k = 1)) → post any (f_stackSize, f_transactions, f_putCount, f_blocks, f_tip, f_poolCount, f_queueCount, a_tokenCount, a_tokenOp, a_tokenValue, a_scriptInUse, a_stack, a_inputCount, a_inputCoin, a_inputA, a_inputB, a_outputCount, a_outputAmount, a_outputScript, a_feeOf, a_putRow, a_parentOf, a_heightOf, a_chainWork, a_blockState, a_rewardAmount, a_rewardScript, a_blockSize, a_blockTransaction, a_laidBlock, a_coinHeight, a_coinSpent, a_transactionHeight, a_poolRow, mk, a_queue)) : wpX_markRivals post (f_stackSize, f_transactions, f_putCount, f_blocks, f_tip, f_poolCount, f_queueCount, a_tokenCount, a_tokenOp, a_tokenValue, a_scriptInUse, a_stack, a_inputCount, a_inputCoin, a_inputA, a_inputB, a_outputCount, a_outputAmount, a_outputScript, a_feeOf, a_putRow, a_parentOf, a_heightOf, a_chainWork, a_blockState, a_rewardAmount, a_rewardScript, a_blockSize, a_blockTransaction, a_laidBlock, a_coinHeight, a_coinSpent, a_transactionHeight, a_poolRow, a_marked, a_queue) (nI t) := by
  have hm := w.2.2.1
  subst ep
  have L25 : ∀ (d i fuel : Nat) (any : Int32) (mk : Nat → Int32), i + d = np → d < fuel → pd_ms (a_tokenCount, a_tokenOp, a_tokenValue, a_inputCount, a_inputCoin, a_inputA, a_inputB, a_outputCount, a_outputAmount, a_outputScript, a_parentOf, a_heightOf, a_rewardScript, a_blockSize, a_blockTransaction, a_feeOf, a_rewardAmount) a_poolRow i t mk → (∀ k, i ≤ k → k < 12 → mk k = 0) → ((any = 0 ∧ ∀ k, k < i → mk k = 0) ∨ (any = 1 ∧ ∃ k, k < i ∧ mk k = 1)) → wX_markRivals_25 post (nI t) f_stackSize f_transactions f_putCount f_blocks f_tip (nI np) f_queueCount fuel any (nI i) a_tokenCount a_tokenOp a_tokenValue a_scriptInUse a_stack a_inputCount a_inputCoin a_inputA a_inputB a_outputCount a_outputAmount a_outputScript a_feeOf a_putRow a_parentOf a_heightOf a_chainWork a_blockState a_rewardAmount a_rewardScript a_blockSize a_blockTransaction a_laidBlock a_coinHeight a_coinSpent a_transactionHeight a_poolRow mk a_queue := by
    intro d
    induction d with
    | zero =>
      intro i fuel any mk hi hf hms h0 hany
      obtain ⟨fuel, rfl⟩ : ∃ q, fuel = q + 1 := ⟨fuel - 1, by omega⟩
      obtain rfl : i = np := by omega
      refine br_t (nI_le (Nat.le_refl _) (by omega)) ⟨?_, H mk any hms hany⟩
      rcases hany with ⟨rfl, _⟩ | ⟨rfl, _⟩ <;> rfl
    | succ d ih =>
      intro i fuel any mk hi hf hms h0 hany
      obtain ⟨fuel, rfl⟩ : ∃ q, fuel = q + 1 := ⟨fuel - 1, by omega⟩
      obtain ⟨u, hu, eu⟩ := hp i (by omega)
      have euc := pd_cl eu (by omega)
      have stepz : ∀ z : Int32, (z = 0 ∨ z = 1) → (z = 1 ↔ (pd_share (a_tokenCount, a_tokenOp, a_tokenValue, a_inputCount, a_inputCoin, a_inputA, a_inputB, a_outputCount, a_outputAmount, a_outputScript, a_parentOf, a_heightOf, a_rewardScript, a_blockSize, a_blockTransaction, a_feeOf, a_rewardAmount) t u ∨ ∃ j, j < i ∧ mk j = 1 ∧ pd_needs (a_tokenCount, a_tokenOp, a_tokenValue, a_inputCount, a_inputCoin, a_inputA, a_inputB, a_outputCount, a_outputAmount, a_outputScript, a_parentOf, a_heightOf, a_rewardScript, a_blockSize, a_blockTransaction, a_feeOf, a_rewardAmount) u (a_poolRow j).toNatClampNeg)) → wX_markRivals_25 post (nI t) f_stackSize f_transactions f_putCount f_blocks f_tip (nI np) f_queueCount fuel (if any = 0 then z else 1) (nI (i + 1)) a_tokenCount a_tokenOp a_tokenValue a_scriptInUse a_stack a_inputCount a_inputCoin a_inputA a_inputB a_outputCount a_outputAmount a_outputScript a_feeOf a_putRow a_parentOf a_heightOf a_chainWork a_blockState a_rewardAmount a_rewardScript a_blockSize a_blockTransaction a_laidBlock a_coinHeight a_coinSpent a_transactionHeight a_poolRow (upd mk i z) a_queue := by
        intro z hz hiff
        refine ih (i + 1) fuel _ _ (by omega) (by omega) (fun k hk => ?_) (fun k h1 h2 => ?_) ?_
        · by_cases e : k = i
          · subst e
            rw [pk_us, euc]
            refine ⟨hz, hiff.trans (or_congr Iff.rfl (exists_congr fun j => and_congr_right fun hj => ?_))⟩
            rw [pk_un (by omega)]
          · rw [pk_un e]
            obtain ⟨q1, q2⟩ := hms k (by omega)
            refine ⟨q1, q2.trans (or_congr Iff.rfl (exists_congr fun j => and_congr_right fun hj => ?_))⟩
            rw [pk_un (by omega)]
        · rw [pk_un (by omega)]; exact h0 k (by omega) h2
        · rcases hany with ⟨rfl, hn⟩ | ⟨rfl, k, h1, h2⟩
          · rw [if_pos rfl]
            rcases hz with rfl | rfl
            · refine Or.inl ⟨rfl, fun k hk => ?_⟩
              by_cases e : k = i
              · rw [e, pk_us]
              · rw [pk_un e]; exact hn k (by omega)
            · exact Or.inr ⟨rfl, i, by omega, pk_us⟩
          · rw [if_neg (by decide)]
            exact Or.inr ⟨rfl, k, by omega, by rw [pk_un (by omega)]; exact h2⟩
      refine pk_le np i (fun z => by omega) (fun z => ⟨pk_in i 12 (by omega), ?_⟩)
      rw [pk_cl i, eu]
      refine xq_share w ht hu (fun q => br_f (by decide) ?_) (fun q => br_t rfl ⟨pk_in i 12 (by omega), ?_⟩)
      · exact xm_mr70 (by omega) (Or.inr rfl) (stepz 1 (Or.inr rfl) ⟨fun _ => Or.inl q, fun _ => rfl⟩)
      · refine xm_hasMarked w hu hnp rfl hp (fun q2 => br_f (by decide) ?_) (fun q2 => br_t rfl ?_)
        · refine xm_mr70 (by omega) (Or.inr rfl) (stepz 1 (Or.inr rfl) ⟨fun _ => Or.inr ?_, fun _ => rfl⟩)
          obtain ⟨j, h1, h2, h3⟩ := q2
          have hji : j < i := by
            rcases Nat.lt_or_ge j i with h | h
            · exact h
            · exact (h2 (h0 j h (by omega))).elim
          rcases (hms j hji).1 with e | e
          · exact (h2 e).elim
          · exact ⟨j, hji, e, h3⟩
        · refine xm_mr70 (by omega) (Or.inl rfl) (stepz 0 (Or.inl rfl) ⟨fun e => absurd e (by decide), fun e => ?_⟩)
          rcases e with e | ⟨j, h1, h2, h3⟩
          · exact (q e).elim
          · exact (q2 ⟨j, by omega, by rw [h2]; decide, h3⟩).elim
  have L2 : ∀ (d i fuel : Nat), i + d = 12 → d < fuel → wX_markRivals_2 post (nI t) f_stackSize f_transactions f_putCount f_blocks f_tip (nI np) f_queueCount fuel (nI i) a_tokenCount a_tokenOp a_tokenValue a_scriptInUse a_stack a_inputCount a_inputCoin a_inputA a_inputB a_outputCount a_outputAmount a_outputScript a_feeOf a_putRow a_parentOf a_heightOf a_chainWork a_blockState a_rewardAmount a_rewardScript a_blockSize a_blockTransaction a_laidBlock a_coinHeight a_coinSpent a_transactionHeight a_poolRow (pd_reset a_marked i 0) a_queue := by
    intro d
    induction d with
    | zero =>
      intro i fuel hd hf
      obtain ⟨fuel, rfl⟩ : ∃ q, fuel = q + 1 := ⟨fuel - 1, by omega⟩
      obtain rfl : i = 12 := by omega
      exact br_t (by decide) ⟨np + 1, L25 np 0 (np + 1) 0 _ (by omega) (by omega) (fun k hk => by omega) (fun k _ h2 => if_pos h2) (Or.inl ⟨rfl, fun k hk => by omega⟩)⟩
    | succ d ih =>
      intro i fuel hd hf
      obtain ⟨fuel, rfl⟩ : ∃ q, fuel = q + 1 := ⟨fuel - 1, by omega⟩
      exact pk_le 12 i (fun z => by omega) (fun z => ⟨pk_in i 12 (by omega), nm_r (by rw [pk_cl i, xb_0, ← pd_reset_s]) (nm_r (nI_1 i) (ih (i + 1) fuel (by omega) (by omega)))⟩)
  have := L2 12 0 13 (by omega) (by omega)
  rw [pd_reset_0] at this
  exact ⟨13, this⟩
theorem xm_markedFees {made np : Nat} (hm : made ≤ 40) (hnp : np ≤ 12) (ep : f_poolCount = nI np) (hp : pd_pl a_poolRow np made) {post : Int32 → Prop} (H : post (pd_mf a_marked a_feeOf a_poolRow np)) : wpX_markedFees post (f_stackSize, f_transactions, f_putCount, f_blocks, f_tip, f_poolCount, f_queueCount, a_tokenCount, a_tokenOp, a_tokenValue, a_scriptInUse, a_stack, a_inputCount, a_inputCoin, a_inputA, a_inputB, a_outputCount, a_outputAmount, a_outputScript, a_feeOf, a_putRow, a_parentOf, a_heightOf, a_chainWork, a_blockState, a_rewardAmount, a_rewardScript, a_blockSize, a_blockTransaction, a_laidBlock, a_coinHeight, a_coinSpent, a_transactionHeight, a_poolRow, a_marked, a_queue) := by
  subst ep
  have key : ∀ (d i fuel : Nat), i + d = np → d < fuel → wX_markedFees_4 post f_stackSize f_transactions f_putCount f_blocks f_tip (nI np) f_queueCount a_tokenCount a_tokenOp a_tokenValue a_scriptInUse a_stack a_inputCount a_inputCoin a_inputA a_inputB a_outputCount a_outputAmount a_outputScript a_feeOf a_putRow a_parentOf a_heightOf a_chainWork a_blockState a_rewardAmount a_rewardScript a_blockSize a_blockTransaction a_laidBlock a_coinHeight a_coinSpent a_transactionHeight a_poolRow a_marked a_queue fuel (pd_mf a_marked a_feeOf a_poolRow i) (nI i) := by
    intro d
    induction d with
    | zero =>
      intro i fuel hi hf
      obtain ⟨fuel, rfl⟩ : ∃ q, fuel = q + 1 := ⟨fuel - 1, by omega⟩
      obtain rfl : i = np := by omega
      exact br_t (nI_le (Nat.le_refl _) (by omega)) H
    | succ d ih =>
      intro i fuel hi hf
      obtain ⟨fuel, rfl⟩ : ∃ q, fuel = q + 1 := ⟨fuel - 1, by omega⟩
      obtain ⟨u, hu, eu⟩ := hp i (by omega)
      have hnx := ih (i + 1) fuel (by omega) (by omega)
      rw [pd_mf] at hnx
      refine pk_le np i (fun z => by omega) (fun z => ⟨pk_in i 12 (by omega), ?_⟩)
      rw [pk_cl i]
      refine br_c (fun q => nm_r (nI_1 i) ?_) (fun q => ⟨pk_in i 12 (by omega), pk_in u 40 (by omega) eu, nm_e (nm_r (nI_1 i) ?_)⟩)
      · rw [if_pos q] at hnx; exact hnx
      · rw [if_neg q] at hnx; exact hnx
  exact ⟨np + 1, key np 0 (np + 1) (by omega) (by omega)⟩
theorem xm_remove {np : Nat} (hnp : np ≤ 12) (ep : f_poolCount = nI np) {post : SX → Prop} (H : post (f_stackSize, f_transactions, f_putCount, f_blocks, f_tip, nI (pd_rm a_marked a_poolRow np).2, f_queueCount, a_tokenCount, a_tokenOp, a_tokenValue, a_scriptInUse, a_stack, a_inputCount, a_inputCoin, a_inputA, a_inputB, a_outputCount, a_outputAmount, a_outputScript, a_feeOf, a_putRow, a_parentOf, a_heightOf, a_chainWork, a_blockState, a_rewardAmount, a_rewardScript, a_blockSize, a_blockTransaction, a_laidBlock, a_coinHeight, a_coinSpent, a_transactionHeight, (pd_rm a_marked a_poolRow np).1, a_marked, a_queue)) : wpX_removeMarked post (f_stackSize, f_transactions, f_putCount, f_blocks, f_tip, f_poolCount, f_queueCount, a_tokenCount, a_tokenOp, a_tokenValue, a_scriptInUse, a_stack, a_inputCount, a_inputCoin, a_inputA, a_inputB, a_outputCount, a_outputAmount, a_outputScript, a_feeOf, a_putRow, a_parentOf, a_heightOf, a_chainWork, a_blockState, a_rewardAmount, a_rewardScript, a_blockSize, a_blockTransaction, a_laidBlock, a_coinHeight, a_coinSpent, a_transactionHeight, a_poolRow, a_marked, a_queue) := by
  subst ep
  have key : ∀ (d i fuel : Nat), i + d = np → d < fuel → wX_removeMarked_4 post f_stackSize f_transactions f_putCount f_blocks f_tip (nI np) f_queueCount fuel (nI (pd_rm a_marked a_poolRow i).2) (nI i) a_tokenCount a_tokenOp a_tokenValue a_scriptInUse a_stack a_inputCount a_inputCoin a_inputA a_inputB a_outputCount a_outputAmount a_outputScript a_feeOf a_putRow a_parentOf a_heightOf a_chainWork a_blockState a_rewardAmount a_rewardScript a_blockSize a_blockTransaction a_laidBlock a_coinHeight a_coinSpent a_transactionHeight ((pd_rm a_marked a_poolRow i).1) a_marked a_queue := by
    intro d
    induction d with
    | zero =>
      intro i fuel hi hf
      obtain ⟨fuel, rfl⟩ : ∃ q, fuel = q + 1 := ⟨fuel - 1, by omega⟩
      obtain rfl : i = np := by omega
      exact br_t (nI_le (Nat.le_refl _) (by omega)) H
    | succ d ih =>
      intro i fuel hi hf
      obtain ⟨fuel, rfl⟩ : ∃ q, fuel = q + 1 := ⟨fuel - 1, by omega⟩
      have hle := pd_rm_le a_marked a_poolRow i
      have hnx := ih (i + 1) fuel (by omega) (by omega)
      rw [pd_rm] at hnx
      refine pk_le np i (fun z => by omega) (fun z => ⟨pk_in i 12 (by omega), ?_⟩)
      rw [pk_cl i]
      refine br_c (fun q => ⟨pk_in i 12 (by omega), pk_in (pd_rm a_marked a_poolRow i).2 12 (by omega), nm_r (by rw [pk_cl (pd_rm a_marked a_poolRow i).2]) (nm_r (nI_1 _) (nm_r (nI_1 i) ?_))⟩) (fun q => nm_r (nI_1 i) ?_)
      · rw [if_pos q] at hnx; exact hnx
      · rw [if_neg q] at hnx; exact hnx
  exact ⟨np + 1, key np 0 (np + 1) (by omega) (by omega)⟩
end
section
variable {g_made g_blocks g_arrivals g_tip g_pooled g_chainLength : Int32} {b_op b_arg b_length b_ins b_inCoin b_inA b_inB b_outs b_amount b_lock b_parent b_work b_rewardLock b_height b_many b_holds b_delivered b_arrived b_pool b_chain b_from b_worth b_within b_spent b_stack b_again b_chosen gfe grw : Nat → Int32}
theorem ym_rivals {made blocks t np : Nat} (w : pd_wf (b_length, b_op, b_arg, b_ins, b_inCoin, b_inA, b_inB, b_outs, b_amount, b_lock, b_parent, b_height, b_rewardLock, b_many, b_holds, gfe, grw) made blocks) (ht : t < made) (hnp : np ≤ 12) (ep : g_pooled = nI np) (hp : pd_pl b_pool np made) {mk : Nat → Int32} (hms : pd_ms (b_length, b_op, b_arg, b_ins, b_inCoin, b_inA, b_inB, b_outs, b_amount, b_lock, b_parent, b_height, b_rewardLock, b_many, b_holds, gfe, grw) b_pool np t mk) (topo : ∀ i j, i < np → j < np → pd_needs (b_length, b_op, b_arg, b_ins, b_inCoin, b_inA, b_inB, b_outs, b_amount, b_lock, b_parent, b_height, b_rewardLock, b_many, b_holds, gfe, grw) (b_pool i).toNatClampNeg (b_pool j).toNatClampNeg → j < i) {post : Int32 → Prop}
    (H : ∀ s, (∀ k, k < 32 → (bt s k = true ↔ (k < np ∧ mk k = 1))) → post s) : wpY_rivals post (g_made, g_blocks, g_arrivals, g_tip, g_pooled, g_chainLength, b_op, b_arg, b_length, b_ins, b_inCoin, b_inA, b_inB, b_outs, b_amount, b_lock, b_parent, b_work, b_rewardLock, b_height, b_many, b_holds, b_delivered, b_arrived, b_pool, b_chain, b_from, b_worth, b_within, b_spent, b_stack, b_again, b_chosen) (nI t) := by
  have hm := w.2.2.1
  subst ep
  -- one pass of the closure
  have L54 : ∀ (J : Int32 → Int32 → Prop) (old : Int32), (∀ s, (∀ k, k < 32 → (bt s k = true ↔ (k < np ∧ mk k = 1))) → J s old) →
      ∀ (d k fuel : Nat) (s : Int32), k + d = 144 → d < fuel → (∀ q, q < 32 → bt s q = true → q < np ∧ mk q = 1) → (∀ q, q < np → pd_share (b_length, b_op, b_arg, b_ins, b_inCoin, b_inA, b_inB, b_outs, b_amount, b_lock, b_parent, b_height, b_rewardLock, b_many, b_holds, gfe, grw) t (b_pool q).toNatClampNeg → bt s q = true) →
        (∀ j i, j < np → i < np → 12 * j + i < k → mk j = 1 → pd_needs (b_length, b_op, b_arg, b_ins, b_inCoin, b_inA, b_inB, b_outs, b_amount, b_lock, b_parent, b_height, b_rewardLock, b_many, b_holds, gfe, grw) (b_pool i).toNatClampNeg (b_pool j).toNatClampNeg → bt s i = true) →
        wY_rivals_54 post J old g_made g_blocks g_arrivals g_tip (nI np) g_chainLength b_op b_arg b_length b_ins b_inCoin b_inA b_inB b_outs b_amount b_lock b_parent b_work b_rewardLock b_height b_many b_holds b_delivered b_arrived b_pool b_chain b_from b_worth b_within b_spent b_stack b_again b_chosen fuel s (nI k) := by
    intro J old HJ d
    have full : ∀ (s : Int32) (k : Nat), (∀ q, q < np → pd_share (b_length, b_op, b_arg, b_ins, b_inCoin, b_inA, b_inB, b_outs, b_amount, b_lock, b_parent, b_height, b_rewardLock, b_many, b_holds, gfe, grw) t (b_pool q).toNatClampNeg → bt s q = true) → (∀ j i, j < np → i < np → 12 * j + i < k → mk j = 1 → pd_needs (b_length, b_op, b_arg, b_ins, b_inCoin, b_inA, b_inB, b_outs, b_amount, b_lock, b_parent, b_height, b_rewardLock, b_many, b_holds, gfe, grw) (b_pool i).toNatClampNeg (b_pool j).toNatClampNeg → bt s i = true) → ∀ q, q < np → 12 * q ≤ k → mk q = 1 → bt s q = true := by
      intro s k h1 h2 q hq hk hmq
      rcases (hms q hq).2.mp hmq with h | ⟨j, hj, hmj, hnd⟩
      · exact h1 q hq h
      · exact h2 j q (by omega) hq (by omega) hmj hnd
    induction d with
    | zero =>
      intro k fuel s hd hf hsub hsh hcl
      obtain ⟨fuel, rfl⟩ : ∃ q, fuel = q + 1 := ⟨fuel - 1, by omega⟩
      obtain rfl : k = 144 := by omega
      exact br_t (by decide) (HJ s fun q hq => ⟨hsub q hq, fun z => full s 144 hsh hcl q z.1 (by omega) z.2⟩)
    | succ d ih =>
      intro k fuel s hd hf hsub hsh hcl
      obtain ⟨fuel, rfl⟩ : ∃ q, fuel = q + 1 := ⟨fuel - 1, by omega⟩
      have ej : nI k / 12 = nI (k / 12) := pk_div (d := 12) (by omega) (by omega) (by omega)
      have ei : nI k - nI k / 12 * 12 = nI (k % 12) := pk_rem (d := 12) (by omega) (by omega) (by omega)
      have nxt : ∀ s', (∀ q, q < 32 → bt s' q = true → q < np ∧ mk q = 1) → (∀ q, q < 32 → bt s q = true → bt s' q = true) → (k / 12 < np → k % 12 < np → mk (k / 12) = 1 → pd_needs (b_length, b_op, b_arg, b_ins, b_inCoin, b_inA, b_inB, b_outs, b_amount, b_lock, b_parent, b_height, b_rewardLock, b_many, b_holds, gfe, grw) (b_pool (k % 12)).toNatClampNeg (b_pool (k / 12)).toNatClampNeg → bt s' (k % 12) = true) → wY_rivals_54 post J old g_made g_blocks g_arrivals g_tip (nI np) g_chainLength b_op b_arg b_length b_ins b_inCoin b_inA b_inB b_outs b_amount b_lock b_parent b_work b_rewardLock b_height b_many b_holds b_delivered b_arrived b_pool b_chain b_from b_worth b_within b_spent b_stack b_again b_chosen fuel s' (nI (k + 1)) := by
        intro s' h1 h2 h3
        refine ih (k + 1) fuel s' (by omega) (by omega) h1 (fun q hq z => h2 q (by omega) (hsh q hq z)) (fun j i hj hi hk hmj hnd => ?_)
        by_cases e : 12 * j + i < k
        · exact h2 i (by omega) (hcl j i hj hi e hmj hnd)
        · have e1 : j = k / 12 := by omega
          have e2 : i = k % 12 := by omega
          subst e1 e2
          exact h3 hj hi hmj hnd
      refine pk_le 144 k (fun z => by omega) (fun z => ⟨by decide, nm_r ej ⟨by decide, nm_r ei ?_⟩⟩)
      refine pk_le np (k / 12) (fun z1 => nm_r (nI_1 k) (nxt s hsub (fun q _ z => z) (fun h1 => by omega))) (fun z1 => pk_le np (k % 12) (fun z2 => nm_r (nI_1 k) (nxt s hsub (fun q _ z => z) (fun h1 h2 => by omega))) (fun z2 => ?_))
      refine br_c (fun z3 => ?_) (fun z3 => nm_r (nI_1 k) (nxt s hsub (fun q _ z => z) (fun h1 h2 h3 h4 => ?_)))
      · rw [yb_bit1 s (by omega)] at z3
        obtain ⟨u1, hu1, eu1⟩ := hp (k % 12) z2
        obtain ⟨u2, hu2, eu2⟩ := hp (k / 12) z1
        have euc1 := pd_cl eu1 (by omega)
        have euc2 := pd_cl eu2 (by omega)
        refine ⟨pk_in (k % 12) 12 (by omega), pk_in (k / 12) 12 (by omega), ?_⟩
        rw [pk_cl (x := nI (k % 12)) (k % 12), pk_cl (x := nI (k / 12)) (k / 12), eu1, eu2]
        refine yq_needs w hu1 (by omega) (fun z4 => br_f (by decide) (nm_e (nm_r (nI_1 k) (nxt _ (fun q hq z => ?_) (fun q hq z => ?_) (fun _ _ _ _ => ?_))))) (fun z4 => br_t rfl (nm_r (nI_1 k) (nxt s hsub (fun q _ z => z) (fun h1 h2 h3 h4 => ?_))))
        · rw [yb_or s (by omega) hq] at z
          rcases z with z | z
          · exact hsub q hq z
          · subst z
            have hmj := (hsub (k / 12) (by omega) z3).2
            have hnd : pd_needs (b_length, b_op, b_arg, b_ins, b_inCoin, b_inA, b_inB, b_outs, b_amount, b_lock, b_parent, b_height, b_rewardLock, b_many, b_holds, gfe, grw) (b_pool (k % 12)).toNatClampNeg (b_pool (k / 12)).toNatClampNeg := by rw [euc1, euc2]; exact z4
            exact ⟨z2, (hms _ z2).2.mpr (Or.inr ⟨k / 12, topo _ _ z2 z1 hnd, hmj, hnd⟩)⟩
        · rw [yb_or s (by omega) hq]; exact Or.inl z
        · rw [yb_or s (by omega) (by omega)]; exact Or.inr rfl
        · rw [euc1, euc2] at h4; exact (z4 h4).elim
      · rw [yb_bit1 s (by omega)] at z3
        exact (z3 (full s k hsh hcl _ h1 (by omega) h3)).elim
  have M1 : ∀ (s : Int32), (∀ k, k < 32 → (bt s k = true ↔ (k < np ∧ mk k = 1))) → ∀ old fuel, wY_rivals_44 post g_made g_blocks g_arrivals g_tip (nI np) g_chainLength b_op b_arg b_length b_ins b_inCoin b_inA b_inB b_outs b_amount b_lock b_parent b_work b_rewardLock b_height b_many b_holds b_delivered b_arrived b_pool b_chain b_from b_worth b_within b_spent b_stack b_again b_chosen (fuel + 2) s old := by
    intro s hs old fuel
    refine br_c (fun _ => H s hs) (fun _ => ⟨145, L54 _ _ (fun s' hs' => ?_) 144 0 145 s (by omega) (by omega) (fun q hq z => (hs q hq).mp z) (fun q hq z => (hs q (by omega)).mpr ⟨hq, (hms q hq).2.mpr (Or.inl z)⟩) (fun j i hj hi hk hmj hnd => by omega)⟩)
    have : s' = s := b_ext fun i hi => by
      have h1 := hs i hi
      have h2 := hs' i hi
      cases e1 : bt s' i <;> cases e2 : bt s i
      · rfl
      · exact absurd (h2.mpr (h1.mp e2)) (by rw [e1]; decide)
      · exact absurd (h1.mpr (h2.mp e1)) (by rw [e2]; decide)
      · rfl
    subst this
    exact br_t rfl (H s' hs')
  have L7 : ∀ (d i fuel : Nat) (s : Int32), i + d = np → d < fuel → (∀ q, q < 32 → (bt s q = true ↔ (q < i ∧ pd_share (b_length, b_op, b_arg, b_ins, b_inCoin, b_inA, b_inB, b_outs, b_amount, b_lock, b_parent, b_height, b_rewardLock, b_many, b_holds, gfe, grw) t (b_pool q).toNatClampNeg))) → wY_rivals_7 post (nI t) (-1) g_made g_blocks g_arrivals g_tip (nI np) g_chainLength b_op b_arg b_length b_ins b_inCoin b_inA b_inB b_outs b_amount b_lock b_parent b_work b_rewardLock b_height b_many b_holds b_delivered b_arrived b_pool b_chain b_from b_worth b_within b_spent b_stack b_again b_chosen fuel s (nI i) := by
    intro d
    induction d with
    | zero =>
      intro i fuel s hi hf hs
      obtain ⟨fuel, rfl⟩ : ∃ q, fuel = q + 1 := ⟨fuel - 1, by omega⟩
      obtain rfl : i = np := by omega
      have hne : ¬ s = -1 := by
        intro e
        have := (hs 31 (by omega)).mp (by rw [e]; decide +kernel)
        omega
      refine br_t (nI_le (Nat.le_refl _) (by omega)) ⟨3, br_f hne ⟨145, L54 _ _ (fun s' hs' => M1 s' hs' _ 0) 144 0 145 s (by omega) (by omega) (fun q hq z => ?_) (fun q hq z => (hs q (by omega)).mpr ⟨hq, z⟩) (fun j i hj hi hk hmj hnd => by omega)⟩⟩
      obtain ⟨h1, h2⟩ := (hs q hq).mp z
      exact ⟨h1, (hms q h1).2.mpr (Or.inl h2)⟩
    | succ d ih =>
      intro i fuel s hi hf hs
      obtain ⟨fuel, rfl⟩ : ∃ q, fuel = q + 1 := ⟨fuel - 1, by omega⟩
      obtain ⟨u, hu, eu⟩ := hp i (by omega)
      have euc := pd_cl eu (by omega)
      refine pk_le np i (fun z => by omega) (fun z => ⟨pk_in i 12 (by omega), ?_⟩)
      rw [pk_cl i, eu]
      refine yq_share w ht hu (fun z1 => br_f (by decide) (nm_e (nm_r (nI_1 i) (ih (i + 1) fuel _ (by omega) (by omega) fun q hq => ?_)))) (fun z1 => br_t rfl (nm_r (nI_1 i) (ih (i + 1) fuel s (by omega) (by omega) fun q hq => ?_)))
      · rw [yb_or s (by omega) hq, hs q hq]
        by_cases e : q = i
        · subst e
          exact ⟨fun _ => ⟨by omega, by rw [euc]; exact z1⟩, fun _ => Or.inr rfl⟩
        · exact ⟨fun z => by rcases z with z | z; exact ⟨by omega, z.2⟩; exact (e z).elim, fun z => Or.inl ⟨by omega, z.2⟩⟩
      · rw [hs q hq]
        by_cases e : q = i
        · subst e
          exact ⟨fun z => by omega, fun z => by rw [euc] at z; exact (z1 z.2).elim⟩
        · exact ⟨fun z => ⟨by omega, z.2⟩, fun z => ⟨by omega, z.2⟩⟩
  exact ⟨np + 1, L7 np 0 (np + 1) 0 (by omega) (by omega) fun q hq => by rw [b_0]; exact ⟨fun z => absurd z (by decide), fun z => by omega⟩⟩
end
end
section
/-! the pool: what holds of it, and how a transaction comes in -/
def pd_pool (D : pd_D) (S : pd_S) (made : Nat) (pl : pd_F) (np : Nat) : Prop := np ≤ 12 ∧ ∀ k, k < np → ∃ t, t < made ∧ pl k = nI t ∧ S.2.2 t < 0
    ∧ (∀ i, i < (pd_ic D t).toNatClampNeg → (0 ≤ S.1 (pd_co D (3 * t + i)).toNatClampNeg ∧ S.2.1 (pd_co D (3 * t + i)).toNatClampNeg = 0) ∨ ((pd_co D (3 * t + i)).toNatClampNeg < 120 ∧ ∃ j, j < k ∧ pl j = nI ((pd_co D (3 * t + i)).toNatClampNeg / 3)))
    ∧ (∀ j, j < k → pl j ≠ pl k)
theorem pd_pool_pl {D : pd_D} {S : pd_S} {made np : Nat} {pl : pd_F} (P : pd_pool D S made pl np) : pd_pl pl np made := fun k hk => by
  obtain ⟨t, h1, h2, _⟩ := P.2 k hk
  exact ⟨t, h1, h2⟩
theorem pd_pool_inj {D : pd_D} {S : pd_S} {made np : Nat} {pl : pd_F} (P : pd_pool D S made pl np) {i j : Nat} (hi : i < np) (hj : j < np) (e : pl i = pl j) : i = j := by
  obtain ⟨_, _, _, _, _, d1⟩ := P.2 i hi
  obtain ⟨_, _, _, _, _, d2⟩ := P.2 j hj
  rcases Nat.lt_trichotomy i j with h | h | h
  · exact (d2 i h e).elim
  · exact h
  · exact (d1 j h e.symm).elim
theorem pd_pool_topo {D : pd_D} {S : pd_S} {made blocks np : Nat} {pl : pd_F} (hm : made ≤ 40) (I : pd_inv D made blocks S) (P : pd_pool D S made pl np) {i j : Nat} (hi : i < np) (hj : j < np) (h : pd_needs D (pl i).toNatClampNeg (pl j).toNatClampNeg) : j < i := by
  obtain ⟨t, h1, h2, h3, h4, h5⟩ := P.2 i hi
  obtain ⟨u, q1, q2, q3, _⟩ := P.2 j hj
  rw [pd_cl h2 (by omega), pd_cl q2 (by omega)] at h
  obtain ⟨k, k1, k2, k3⟩ := h
  rcases h4 k k1 with ⟨z, _⟩ | ⟨_, j', z1, z2⟩
  · have := I.2.2.2.2.1 _ k2 z
    rw [k3] at this
    exact absurd this (Int32.not_le.mpr q3)
  · rw [k3, ← q2] at z2
    have := pd_pool_inj P (by omega) hj z2
    omega
theorem pd_rm_sub (mk pl : pd_F) : ∀ n, ∃ f : Nat → Nat, (∀ j, j < (pd_rm mk pl n).2 → f j < n ∧ mk (f j) = 0 ∧ (pd_rm mk pl n).1 j = pl (f j)) ∧ (∀ i j, i < j → j < (pd_rm mk pl n).2 → f i < f j) ∧ (∀ k, k < n → mk k = 0 → ∃ j, j < (pd_rm mk pl n).2 ∧ f j = k) ∧ (∀ k, (pd_rm mk pl n).2 ≤ k → (pd_rm mk pl n).1 k = pl k) := by
  intro n
  induction n with
  | zero => exact ⟨fun j => j, fun j hj => (Nat.not_lt_zero _ hj).elim, fun i j _ hj => (Nat.not_lt_zero _ hj).elim, fun k hk => (Nat.not_lt_zero _ hk).elim, fun k _ => rfl⟩
  | succ n ih =>
    obtain ⟨f, h1, h2, h3, h4⟩ := ih
    have hle := pd_rm_le mk pl n
    by_cases e : mk n = 0
    · rw [pd_rm, if_pos e]
      generalize pd_rm mk pl n = R at *
      refine ⟨fun j => if j = R.2 then n else f j, fun j hj => ?_, fun i j hij hj => ?_, fun k hk hm => ?_, fun k hk => ?_⟩
      · have hj' : j < R.2 + 1 := hj
        show (if j = R.2 then n else f j) < n + 1 ∧ mk (if j = R.2 then n else f j) = 0 ∧ upd R.1 R.2 (R.1 n) j = pl (if j = R.2 then n else f j)
        by_cases q : j = R.2
        · rw [if_pos q, q, pk_us]
          exact ⟨by omega, e, h4 n hle⟩
        · rw [if_neg q, pk_un q]
          obtain ⟨z1, z2, z3⟩ := h1 j (by omega)
          exact ⟨by omega, z2, z3⟩
      · have hj' : j < R.2 + 1 := hj
        show (if i = R.2 then n else f i) < if j = R.2 then n else f j
        rw [if_neg (by omega)]
        by_cases q : j = R.2
        · rw [if_pos q]; exact (h1 i (by omega)).1
        · rw [if_neg q]; exact h2 i j hij (by omega)
      · by_cases q : k = n
        · exact ⟨R.2, Nat.lt_succ_self _, by show (if R.2 = R.2 then n else f R.2) = k; rw [if_pos rfl]; omega⟩
        · obtain ⟨j, z1, z2⟩ := h3 k (by omega) hm
          refine ⟨j, Nat.lt_succ_of_lt z1, ?_⟩
          show (if j = R.2 then n else f j) = k
          rw [if_neg (by omega)]; exact z2
      · have hk' : R.2 + 1 ≤ k := hk
        show upd R.1 R.2 (R.1 n) k = pl k
        rw [pk_un (by omega)]; exact h4 k (by omega)
    · rw [pd_rm, if_neg e]
      refine ⟨f, fun j hj => ?_, h2, fun k hk hm => ?_, h4⟩
      · obtain ⟨z1, z2, z3⟩ := h1 j hj
        exact ⟨by omega, z2, z3⟩
      · by_cases q : k = n
        · subst q; exact (e hm).elim
        · exact h3 k (by omega) hm
theorem pd_rm_none {mk pl : pd_F} : ∀ n, (∀ k, k < n → mk k = 0) → pd_rm mk pl n = (pl, n) := by
  intro n
  induction n with
  | zero => intro _; rfl
  | succ n ih =>
    intro h
    rw [pd_rm, if_pos (h n (by omega)), ih fun k hk => h k (by omega)]
    refine Prod.ext ?_ rfl
    funext j
    show upd pl n (pl n) j = pl j
    by_cases e : j = n
    · rw [e, pk_us]
    · rw [pk_un e]
theorem pd_rm_eq {mk mk' pl : pd_F} : ∀ n, (∀ k, k < n → mk k = mk' k) → pd_rm mk pl n = pd_rm mk' pl n := by
  intro n
  induction n with
  | zero => intro _; rfl
  | succ n ih => intro h; rw [pd_rm, pd_rm, h n (by omega), ih fun k hk => h k (by omega)]
theorem pd_mf_eq {mk mk' fe fe' pl : pd_F} : ∀ n, (∀ k, k < n → mk k = mk' k) → (∀ k, k < n → fe (pl k).toNatClampNeg = fe' (pl k).toNatClampNeg) → pd_mf mk fe pl n = pd_mf mk' fe' pl n := by
  intro n
  induction n with
  | zero => intro _ _; rfl
  | succ n ih => intro h h'; rw [pd_mf, pd_mf, h n (by omega), h' n (by omega), ih (fun k hk => h k (by omega)) (fun k hk => h' k (by omega))]
theorem pd_ms_ex (D : pd_D) (pl : pd_F) (t : Nat) : ∀ n, ∃ mk, pd_ms D pl n t mk := by
  intro n
  induction n with
  | zero => exact ⟨fun _ => 0, fun k hk => by omega⟩
  | succ n ih =>
    obtain ⟨mk, h⟩ := ih
    have aux : ∀ z : Int32, (z = 0 ∨ z = 1) → (z = 1 ↔ (pd_share D t (pl n).toNatClampNeg ∨ ∃ j, j < n ∧ mk j = 1 ∧ pd_needs D (pl n).toNatClampNeg (pl j).toNatClampNeg)) → pd_ms D pl (n + 1) t (upd mk n z) := by
      intro z hz hiff k hk
      by_cases e : k = n
      · subst e
        rw [pk_us]
        refine ⟨hz, hiff.trans (or_congr Iff.rfl (exists_congr fun j => and_congr_right fun hj => ?_))⟩
        rw [pk_un (by omega)]
      · rw [pk_un e]
        obtain ⟨q1, q2⟩ := h k (by omega)
        refine ⟨q1, q2.trans (or_congr Iff.rfl (exists_congr fun j => and_congr_right fun hj => ?_))⟩
        rw [pk_un (by omega)]
    by_cases c : (pd_share D t (pl n).toNatClampNeg ∨ ∃ j, j < n ∧ mk j = 1 ∧ pd_needs D (pl n).toNatClampNeg (pl j).toNatClampNeg)
    · exact ⟨_, aux 1 (Or.inr rfl) ⟨fun _ => c, fun _ => rfl⟩⟩
    · exact ⟨_, aux 0 (Or.inl rfl) ⟨fun z => absurd z (by decide), fun z => (c z).elim⟩⟩
theorem pd_ms_uniq {D : pd_D} {pl mk mk' : pd_F} {t np : Nat} (m : pd_ms D pl np t mk) (m' : pd_ms D pl np t mk') : ∀ k, k < np → mk k = mk' k := by
  have key : ∀ n k, k < n → k < np → mk k = mk' k := by
    intro n
    induction n with
    | zero => intro k hk; omega
    | succ n ih =>
      intro k hk hk2
      obtain ⟨a1, a2⟩ := m k hk2
      obtain ⟨b1, b2⟩ := m' k hk2
      have : mk k = 1 ↔ mk' k = 1 := by
        rw [a2, b2]
        refine or_congr Iff.rfl (exists_congr fun j => and_congr_right fun hj => ?_)
        rw [ih j (by omega) (by omega)]
      rcases a1 with a | a <;> rcases b1 with b | b
      · rw [a, b]
      · rw [this.mpr b, b]
      · rw [a, this.mp a]
      · rw [a, b]
  exact fun k hk => key (k + 1) k (by omega) hk
theorem pd_pool_rm {D : pd_D} {S : pd_S} {made np t : Nat} {pl mk : pd_F} (hm : made ≤ 40) (P : pd_pool D S made pl np) (m : pd_ms D pl np t mk) : pd_pool D S made (pd_rm mk pl np).1 (pd_rm mk pl np).2 := by
  obtain ⟨f, h1, h2, h3, h4⟩ := pd_rm_sub mk pl np
  have hle := pd_rm_le mk pl np
  have hnp := P.1
  refine ⟨by omega, fun k hk => ?_⟩
  obtain ⟨z1, z2, z3⟩ := h1 k hk
  obtain ⟨u, p1, p2, p3, p4, p5⟩ := P.2 (f k) z1
  refine ⟨u, p1, z3.trans p2, p3, fun i hi => ?_, fun j hj => ?_⟩
  · rcases p4 i hi with q | ⟨q1, j, q2, q3⟩
    · exact Or.inl q
    · refine Or.inr ⟨q1, ?_⟩
      have hmj : mk j = 0 := by
        rcases (m j (by omega)).1 with e | e
        · exact e
        · have : mk (f k) = 1 := (m (f k) z1).2.mpr (Or.inr ⟨j, q2, e, by
            rw [pd_cl p2 (by omega), pd_cl q3 (by omega)]
            exact ⟨i, hi, q1, rfl⟩⟩)
          rw [z2] at this
          exact absurd this (by decide)
      obtain ⟨j', j1, j2⟩ := h3 j (by omega) hmj
      refine ⟨j', ?_, by rw [(h1 j' j1).2.2, j2]; exact q3⟩
      rcases Nat.lt_trichotomy j' k with h | h | h
      · exact h
      · subst h; omega
      · have := h2 k j' h j1; omega
  · rw [(h1 j (by omega)).2.2, z3]
    exact p5 (f j) (h2 j k hj hk)
theorem pd_pool_app {D : pd_D} {S : pd_S} {made np t : Nat} {pl : pd_F} (P : pd_pool D S made pl np) (h12 : np < 12) (ht : t < made) (hth : S.2.2 t < 0) (hno : ∀ j, j < np → pl j ≠ nI t)
    (hin : ∀ i, i < (pd_ic D t).toNatClampNeg → (0 ≤ S.1 (pd_co D (3 * t + i)).toNatClampNeg ∧ S.2.1 (pd_co D (3 * t + i)).toNatClampNeg = 0) ∨ ((pd_co D (3 * t + i)).toNatClampNeg < 120 ∧ ∃ j, j < np ∧ pl j = nI ((pd_co D (3 * t + i)).toNatClampNeg / 3))) : pd_pool D S made (upd pl np (nI t)) (np + 1) := by
  refine ⟨by omega, fun k hk => ?_⟩
  by_cases e : k = np
  · subst e
    rw [pk_us]
    refine ⟨t, ht, rfl, hth, fun i hi => ?_, fun j hj => by rw [pk_un (by omega)]; exact hno j hj⟩
    rcases hin i hi with q | ⟨q1, j, q2, q3⟩
    · exact Or.inl q
    · exact Or.inr ⟨q1, j, q2, by rw [pk_un (by omega)]; exact q3⟩
  · rw [pk_un e]
    obtain ⟨u, p1, p2, p3, p4, p5⟩ := P.2 k (by omega)
    refine ⟨u, p1, p2, p3, fun i hi => ?_, fun j hj => by rw [pk_un (by omega)]; exact p5 j hj⟩
    rcases p4 i hi with q | ⟨q1, j, q2, q3⟩
    · exact Or.inl q
    · exact Or.inr ⟨q1, j, q2, by rw [pk_un (by omega)]; exact q3⟩
theorem pd_ag_may {D E : pd_D} {made blocks t : Nat} {h : Int32} {S : pd_S} {P : Nat → Prop} (w : pd_wf D made blocks) (a : pd_ag D E made blocks) (ht : t < made) : pd_may E S h P t ↔ pd_may D S h P t := by
  obtain ⟨e1, e2, e3, e4, e5⟩ := a.1 _ ht
  unfold pd_may
  rw [e1, e3]
  refine and_congr (forall_congr' fun i => imp_congr_right fun hi => ?_) Iff.rfl
  obtain ⟨c, hc, _, ec, hq⟩ := pd_wf_co w ht hi
  obtain ⟨q1, q2, q3⟩ := e4 i hi
  unfold pd_okG
  rw [q1, q2, q3, ec]
  exact and_congr Iff.rfl (and_congr Iff.rfl (and_congr Iff.rfl (pd_ag_fit w a hc (pd_coin_mono (Nat.le_of_lt ht) hq))))
section
variable {g_made g_blocks g_arrivals g_tip g_pooled g_chainLength : Int32} {b_op b_arg b_length b_ins b_inCoin b_inA b_inB b_outs b_amount b_lock b_parent b_work b_rewardLock b_height b_many b_holds b_delivered b_arrived b_pool b_chain b_from b_worth b_within b_spent b_stack b_again b_chosen gfe grw : Nat → Int32}
theorem yq_poolCoin {np c : Nat} (hnp : np ≤ 12) (ep : g_pooled = nI np) (hc : c < 152) {post : Int32 → Prop} (H1 : (c < 120 ∧ ∃ k, k < np ∧ b_pool k = nI (c / 3)) → post 1) (H0 : ¬ (c < 120 ∧ ∃ k, k < np ∧ b_pool k = nI (c / 3)) → post 0) : wpY_isPoolCoin post (g_made, g_blocks, g_arrivals, g_tip, g_pooled, g_chainLength, b_op, b_arg, b_length, b_ins, b_inCoin, b_inA, b_inB, b_outs, b_amount, b_lock, b_parent, b_work, b_rewardLock, b_height, b_many, b_holds, b_delivered, b_arrived, b_pool, b_chain, b_from, b_worth, b_within, b_spent, b_stack, b_again, b_chosen) (nI c) := by
  refine pk_le 120 c (fun z => H0 fun q => by omega) (fun z => ⟨by decide, ?_⟩)
  rw [xb_d3 hc]
  exact yq_pooled hnp ep (fun q => br_f (by decide) (H1 ⟨z, q⟩)) (fun q => br_t rfl (H0 fun q' => q q'.2))
theorem ym_isLate {made blocks t np tp n : Nat} (w : pd_wf (b_length, b_op, b_arg, b_ins, b_inCoin, b_inA, b_inB, b_outs, b_amount, b_lock, b_parent, b_height, b_rewardLock, b_many, b_holds, gfe, grw) made blocks) (tk : fx_tok b_length b_op b_arg) (fq : pd_feq (b_length, b_op, b_arg, b_ins, b_inCoin, b_inA, b_inB, b_outs, b_amount, b_lock, b_parent, b_height, b_rewardLock, b_many, b_holds, gfe, grw) made) (ht : t < made) (hnp : np ≤ 12) (ep : g_pooled = nI np) (et : g_tip = nI tp) (htp : tp < 33) (eh : b_height tp = nI n) (hn : n < 32) (rg : pd_rng b_from) (wr : pd_wor (b_length, b_op, b_arg, b_ins, b_inCoin, b_inA, b_inB, b_outs, b_amount, b_lock, b_parent, b_height, b_rewardLock, b_many, b_holds, gfe, grw) b_from b_worth)
    (hP : ∀ c, c < 152 → (∃ k, k < np ∧ b_pool k = nI (c / 3)) → c < 120 ∧ b_spent c = 0) {post : Int32 → SY → Prop}
    (H0 : pd_may (b_length, b_op, b_arg, b_ins, b_inCoin, b_inA, b_inB, b_outs, b_amount, b_lock, b_parent, b_height, b_rewardLock, b_many, b_holds, gfe, grw) (b_from, b_spent, b_within) (nI (n + 1)) (fun c => ∃ k, k < np ∧ b_pool k = nI (c / 3)) t → ∀ st, post 0 (g_made, g_blocks, g_arrivals, g_tip, g_pooled, g_chainLength, b_op, b_arg, b_length, b_ins, b_inCoin, b_inA, b_inB, b_outs, b_amount, b_lock, b_parent, b_work, b_rewardLock, b_height, b_many, b_holds, b_delivered, b_arrived, b_pool, b_chain, b_from, b_worth, b_within, b_spent, st, b_again, b_chosen))
    (H1 : ¬ pd_may (b_length, b_op, b_arg, b_ins, b_inCoin, b_inA, b_inB, b_outs, b_amount, b_lock, b_parent, b_height, b_rewardLock, b_many, b_holds, gfe, grw) (b_from, b_spent, b_within) (nI (n + 1)) (fun c => ∃ k, k < np ∧ b_pool k = nI (c / 3)) t → ∀ st, post 1 (g_made, g_blocks, g_arrivals, g_tip, g_pooled, g_chainLength, b_op, b_arg, b_length, b_ins, b_inCoin, b_inA, b_inB, b_outs, b_amount, b_lock, b_parent, b_work, b_rewardLock, b_height, b_many, b_holds, b_delivered, b_arrived, b_pool, b_chain, b_from, b_worth, b_within, b_spent, st, b_again, b_chosen)) :
    wpY_isLate post (g_made, g_blocks, g_arrivals, g_tip, g_pooled, g_chainLength, b_op, b_arg, b_length, b_ins, b_inCoin, b_inA, b_inB, b_outs, b_amount, b_lock, b_parent, b_work, b_rewardLock, b_height, b_many, b_holds, b_delivered, b_arrived, b_pool, b_chain, b_from, b_worth, b_within, b_spent, b_stack, b_again, b_chosen) (nI t) := by
  have hm := w.2.2.1
  obtain ⟨nn, m, _, hnn, _, hm3, en, em, hc, _⟩ := w.2.2.2.2.1 _ ht
  have en' : b_ins t = nI nn := en
  have enc : (pd_ic (b_length, b_op, b_arg, b_ins, b_inCoin, b_inA, b_inB, b_outs, b_amount, b_lock, b_parent, b_height, b_rewardLock, b_many, b_holds, gfe, grw) t).toNatClampNeg = nn := pd_cl en (by omega)
  have e3 : 3 * nI t + b_ins (nI t).toNatClampNeg = nI (3 * t + nn) := by rw [pk_cl t, en']; exact yb_3 t nn
  unfold pd_may at H0 H1
  rw [enc] at H0 H1
  have key : ∀ (d i fuel : Nat) (st : Nat → Int32), i + d = nn → d < fuel → (∀ j, j < i → pd_okG (b_length, b_op, b_arg, b_ins, b_inCoin, b_inA, b_inB, b_outs, b_amount, b_lock, b_parent, b_height, b_rewardLock, b_many, b_holds, gfe, grw) (b_from, b_spent, b_within) (nI (n + 1)) (3 * t + j) (pd_from (b_from, b_spent, b_within) (nI (n + 1)) (pd_co (b_length, b_op, b_arg, b_ins, b_inCoin, b_inA, b_inB, b_outs, b_amount, b_lock, b_parent, b_height, b_rewardLock, b_many, b_holds, gfe, grw) (3 * t + j)).toNatClampNeg (∃ k, k < np ∧ b_pool k = nI ((pd_co (b_length, b_op, b_arg, b_ins, b_inCoin, b_inA, b_inB, b_outs, b_amount, b_lock, b_parent, b_height, b_rewardLock, b_many, b_holds, gfe, grw) (3 * t + j)).toNatClampNeg / 3)))) → wY_isLate_16 post (nI t) (nI (n + 1)) fuel (nI (3 * t + i)) g_made g_blocks g_arrivals g_tip g_pooled g_chainLength b_op b_arg b_length b_ins b_inCoin b_inA b_inB b_outs b_amount b_lock b_parent b_work b_rewardLock b_height b_many b_holds b_delivered b_arrived b_pool b_chain b_from b_worth b_within b_spent st b_again b_chosen := by
    intro d
    induction d with
    | zero =>
      intro i fuel st hi hf hj
      obtain ⟨fuel, rfl⟩ : ∃ q, fuel = q + 1 := ⟨fuel - 1, by omega⟩
      obtain rfl : i = nn := by omega
      refine ⟨pk_in t 41 (by omega), br_t (by rw [e3]; exact nI_le (Nat.le_refl _) (by omega)) (yq_fee w fq ht (fun i' hi' h120 => ?_) (br_c (fun z => H0 ⟨hj, z⟩ st) (fun z => H1 (fun q => z q.2) st)))⟩
      rw [enc] at hi'
      obtain ⟨g0, _, _, _⟩ := hj i' hi'
      obtain ⟨c, hc1, hc2, _⟩ := hc i' hi'
      have ecc : (pd_co (b_length, b_op, b_arg, b_ins, b_inCoin, b_inA, b_inB, b_outs, b_amount, b_lock, b_parent, b_height, b_rewardLock, b_many, b_holds, gfe, grw) (3 * t + i')).toNatClampNeg = c := pd_cl hc2 (by omega)
      have ecc' : (b_inCoin (3 * t + i')).toNatClampNeg = c := ecc
      rw [ecc'] at h120 ⊢
      rw [ecc, pd_from_f (fun q => by have := (hP c hc1 q).1; omega)] at g0
      rw [wr c hc1 g0]
      exact if_neg (by omega)
    | succ d ih =>
      intro i fuel st hi hf hj
      obtain ⟨fuel, rfl⟩ : ∃ q, fuel = q + 1 := ⟨fuel - 1, by omega⟩
      obtain ⟨c, hc1, hc2, hc3⟩ := hc i (by omega)
      have hqc := pd_coin_mono (Nat.le_of_lt ht) hc3
      have ecc : (pd_co (b_length, b_op, b_arg, b_ins, b_inCoin, b_inA, b_inB, b_outs, b_amount, b_lock, b_parent, b_height, b_rewardLock, b_many, b_holds, gfe, grw) (3 * t + i)).toNatClampNeg = c := pd_cl hc2 (by omega)
      have ecx : (nI c).toNatClampNeg = c := pk_cl c
      obtain ⟨s8, so, sr⟩ := pd_sc_eq w hqc
      have fail : (∀ g, g = pd_from (b_from, b_spent, b_within) (nI (n + 1)) c (∃ k, k < np ∧ b_pool k = nI (c / 3)) → ¬ (0 ≤ g ∧ b_spent c = 0 ∧ (120 ≤ c → 2 ≤ nI (n + 1) - g) ∧ pd_fit (b_length, b_op, b_arg, b_ins, b_inCoin, b_inA, b_inB, b_outs, b_amount, b_lock, b_parent, b_height, b_rewardLock, b_many, b_holds, gfe, grw) c (b_inA (3 * t + i)) (b_inB (3 * t + i)) (nI (n + 1)) g)) → ∀ st', post 1 (g_made, g_blocks, g_arrivals, g_tip, g_pooled, g_chainLength, b_op, b_arg, b_length, b_ins, b_inCoin, b_inA, b_inB, b_outs, b_amount, b_lock, b_parent, b_work, b_rewardLock, b_height, b_many, b_holds, b_delivered, b_arrived, b_pool, b_chain, b_from, b_worth, b_within, b_spent, st', b_again, b_chosen) := by
        intro hno st'
        refine H1 (fun q => ?_) st'
        have := q.1 i (by omega)
        unfold pd_okG at this
        rw [ecc] at this
        exact hno _ rfl this
      have m135 : ∀ g, g = pd_from (b_from, b_spent, b_within) (nI (n + 1)) c (∃ k, k < np ∧ b_pool k = nI (c / 3)) → 0 ≤ g → b_spent c = 0 → (120 ≤ c → 2 ≤ nI (n + 1) - g) → wY_isLate_135 post (wY_isLate_16 post (nI t) (nI (n + 1)) fuel) (nI t) (nI (n + 1)) (nI (3 * t + i)) g (nI (n + 1)) (b_inB (3 * t + i)) (b_inA (3 * t + i)) (nI c) g_made g_blocks g_arrivals g_tip g_pooled g_chainLength b_op b_arg b_length b_ins b_inCoin b_inA b_inB b_outs b_amount b_lock b_parent b_work b_rewardLock b_height b_many b_holds b_delivered b_arrived b_pool b_chain b_from b_worth b_within b_spent st b_again b_chosen := by
        intro g eg g0 g1 g2
        refine ym_fits hc1 s8 so sr tk (fun hf' st' => br_f (by decide) (nm_r (nI_1 (3 * t + i)) (ih (i + 1) fuel st' (by omega) (by omega) fun j hj' => ?_))) (fun hf' st' => br_t rfl (fail (fun g' eg' q => ?_) st'))
        · by_cases e : j = i
          · subst e
            unfold pd_okG
            rw [ecc, ← eg]
            exact ⟨g0, g1, g2, hf'⟩
          · exact hj j (by omega)
        · rw [← eg] at eg'
          subst eg'
          exact hf' q.2.2.2
      refine ⟨pk_in t 41 (by omega), pk_le (3 * t + nn) (3 * t + i) (fun z => by omega) (fun z => ⟨pk_in (3 * t + i) 123 (by omega), nm_r ((congrArg b_inCoin (pk_cl (3 * t + i))).trans hc2) (yq_poolCoin hnp ep hc1 (fun hin => ⟨pk_in c 152 hc1, ?_⟩) (fun hin => ⟨pk_in c 152 hc1, ?_⟩))⟩) e3⟩
      · have h103 : wY_isLate_103 post (wY_isLate_16 post (nI t) (nI (n + 1)) fuel) (nI t) (nI (n + 1)) (nI (3 * t + i)) (nI c) 1 g_made g_blocks g_arrivals g_tip g_pooled g_chainLength b_op b_arg b_length b_ins b_inCoin b_inA b_inB b_outs b_amount b_lock b_parent b_work b_rewardLock b_height b_many b_holds b_delivered b_arrived b_pool b_chain b_from b_worth b_within b_spent st b_again b_chosen := by
          refine ⟨pk_in (3 * t + i) 123 (by omega), pk_in (3 * t + i) 123 (by omega), br_f (by decide) ?_⟩
          rw [pk_cl (x := nI (3 * t + i)) (3 * t + i)]
          exact m135 _ (pd_from_t hin.2).symm (nI_pos' (by omega)) (hP c hc1 hin.2).2 (fun z => by omega)
        have h91 : ∀ z, wY_isLate_91 post (wY_isLate_16 post (nI t) (nI (n + 1)) fuel) (nI t) (nI (n + 1)) (nI (3 * t + i)) (nI c) 1 z g_made g_blocks g_arrivals g_tip g_pooled g_chainLength b_op b_arg b_length b_ins b_inCoin b_inA b_inB b_outs b_amount b_lock b_parent b_work b_rewardLock b_height b_many b_holds b_delivered b_arrived b_pool b_chain b_from b_worth b_within b_spent st b_again b_chosen := fun z => br_f (by decide) h103
        exact br_c (fun _ => h91 0) (fun _ => ⟨pk_in c 152 hc1, br_c (fun _ => br_c (fun _ => h91 1) (fun _ => ⟨pk_in c 152 hc1, br_c (fun _ => h91 0) (fun _ => h91 1)⟩)) (fun _ => h91 0)⟩)
      · rw [ecx]
        have hin' : ¬ ∃ k, k < np ∧ b_pool k = nI (c / 3) := fun q => hin ⟨(hP c hc1 q).1, q⟩
        have efr : b_from c = pd_from (b_from, b_spent, b_within) (nI (n + 1)) c (∃ k, k < np ∧ b_pool k = nI (c / 3)) := (pd_from_f (S := (b_from, b_spent, b_within)) hin').symm
        rw [← efr] at fail m135
        have h86 : 0 ≤ b_from c → b_spent c = 0 → (120 ≤ c → 2 ≤ nI (n + 1) - b_from c) → wY_isLate_86 post (wY_isLate_16 post (nI t) (nI (n + 1)) fuel) (nI t) (nI (n + 1)) (nI (3 * t + i)) (nI c) 0 g_made g_blocks g_arrivals g_tip g_pooled g_chainLength b_op b_arg b_length b_ins b_inCoin b_inA b_inB b_outs b_amount b_lock b_parent b_work b_rewardLock b_height b_many b_holds b_delivered b_arrived b_pool b_chain b_from b_worth b_within b_spent st b_again b_chosen := by
          intro g0 g1 g2
          refine br_t rfl (br_f (by decide) ⟨pk_in (3 * t + i) 123 (by omega), pk_in (3 * t + i) 123 (by omega), br_t rfl ⟨pk_in c 152 hc1, ?_⟩⟩)
          rw [pk_cl (x := nI (3 * t + i)) (3 * t + i), ecx]
          exact m135 _ rfl g0 g1 g2
        have h90 : (∀ g, g = b_from c → ¬ (0 ≤ g ∧ b_spent c = 0 ∧ (120 ≤ c → 2 ≤ nI (n + 1) - g) ∧ pd_fit (b_length, b_op, b_arg, b_ins, b_inCoin, b_inA, b_inB, b_outs, b_amount, b_lock, b_parent, b_height, b_rewardLock, b_many, b_holds, gfe, grw) c (b_inA (3 * t + i)) (b_inB (3 * t + i)) (nI (n + 1)) g)) → wY_isLate_90 post (wY_isLate_16 post (nI t) (nI (n + 1)) fuel) (nI t) (nI (n + 1)) (nI (3 * t + i)) (nI c) 0 g_made g_blocks g_arrivals g_tip g_pooled g_chainLength b_op b_arg b_length b_ins b_inCoin b_inA b_inB b_outs b_amount b_lock b_parent b_work b_rewardLock b_height b_many b_holds b_delivered b_arrived b_pool b_chain b_from b_worth b_within b_spent st b_again b_chosen := fun q => br_t rfl (br_t rfl (fail q st))
        refine br_c (fun z1 => h90 fun g eg q => ?_) (fun z1 => ⟨pk_in c 152 hc1, br_c (fun z2 => ?_) (fun z2 => h90 fun g eg q => z2 q.2.1)⟩)
        · rw [eg] at q
          exact absurd q.1 (Int32.not_le.mpr z1)
        · have z1' : 0 ≤ b_from c := Int32.not_lt.mp z1
          obtain ⟨g, hg, eg⟩ : ∃ g, g < 32 ∧ b_from c = nI g := by
            rcases rg c hc1 with e | e
            · rw [e] at z1'; exact (pd_m1 z1').elim
            · exact e
          refine pk_lt c 120 (fun z3 => h86 z1' z2 (fun q => by omega)) (fun z3 => ⟨pk_in c 152 hc1, br_c (fun z4 => h90 fun g' eg' q => ?_) (fun z4 => h86 z1' z2 (fun _ => ?_))⟩)
          · have := q.2.2.1 z3
            rw [eg', eg] at this
            rw [eg] at z4
            exact (pd_deep (by omega) (by omega)).mpr this z4
          · rw [eg] at z4 ⊢
            exact (pd_deep (by omega) (by omega)).mp z4
  subst et
  refine ⟨pk_in tp 33 htp, nm_r (e' := nI (n + 1)) (by rw [pk_cl tp, eh, nI_1]) (nm_r (yb_30 t) ⟨nn + 1, key nn 0 (nn + 1) _ (by omega) (by omega) (fun j hj => by omega)⟩)⟩
theorem ym_tk142 {np t : Nat} {s : Int32} {mk : Nat → Int32} (hnp : np ≤ 12) (h01 : ∀ k, k < np → mk k = 0 ∨ mk k = 1) (hs : ∀ k, k < 32 → (bt s k = true ↔ (k < np ∧ mk k = 1))) {post : Int32 → SY → Prop}
    (H5 : (pd_rm mk b_pool np).2 = 12 → post (-5) (g_made, g_blocks, g_arrivals, g_tip, nI (pd_rm mk b_pool np).2, g_chainLength, b_op, b_arg, b_length, b_ins, b_inCoin, b_inA, b_inB, b_outs, b_amount, b_lock, b_parent, b_work, b_rewardLock, b_height, b_many, b_holds, b_delivered, b_arrived, (pd_rm mk b_pool np).1, b_chain, b_from, b_worth, b_within, b_spent, b_stack, b_again, b_chosen))
    (H1 : (pd_rm mk b_pool np).2 < 12 → post (nI ((pd_rm mk b_pool np).2 + 1)) (g_made, g_blocks, g_arrivals, g_tip, nI ((pd_rm mk b_pool np).2 + 1), g_chainLength, b_op, b_arg, b_length, b_ins, b_inCoin, b_inA, b_inB, b_outs, b_amount, b_lock, b_parent, b_work, b_rewardLock, b_height, b_many, b_holds, b_delivered, b_arrived, upd (pd_rm mk b_pool np).1 (pd_rm mk b_pool np).2 (nI t), b_chain, b_from, b_worth, b_within, b_spent, b_stack, b_again, b_chosen)) :
    ∃ fuel, wY_take_142 post (nI t) s g_made g_blocks g_arrivals g_tip (nI np) g_chainLength fuel 0 0 b_op b_arg b_length b_ins b_inCoin b_inA b_inB b_outs b_amount b_lock b_parent b_work b_rewardLock b_height b_many b_holds b_delivered b_arrived b_pool b_chain b_from b_worth b_within b_spent b_stack b_again b_chosen := by
  have key : ∀ (d i fuel : Nat), i + d = np → d < fuel → wY_take_142 post (nI t) s g_made g_blocks g_arrivals g_tip (nI np) g_chainLength fuel (nI (pd_rm mk b_pool i).2) (nI i) b_op b_arg b_length b_ins b_inCoin b_inA b_inB b_outs b_amount b_lock b_parent b_work b_rewardLock b_height b_many b_holds b_delivered b_arrived ((pd_rm mk b_pool i).1) b_chain b_from b_worth b_within b_spent b_stack b_again b_chosen := by
    intro d
    induction d with
    | zero =>
      intro i fuel hi hf
      obtain ⟨fuel, rfl⟩ : ∃ q, fuel = q + 1 := ⟨fuel - 1, by omega⟩
      obtain rfl : i = np := by omega
      have hle := pd_rm_le mk b_pool i
      refine br_t (nI_le (Nat.le_refl _) (by omega)) (pk_eq (pd_rm mk b_pool i).2 12 (fun e => H5 e) (fun e => ⟨pk_in (pd_rm mk b_pool i).2 12 (by omega), nm_r (by rw [pk_cl (pd_rm mk b_pool i).2]) (nm_r (nI_1 _) (H1 (by omega)))⟩))
    | succ d ih =>
      intro i fuel hi hf
      obtain ⟨fuel, rfl⟩ : ∃ q, fuel = q + 1 := ⟨fuel - 1, by omega⟩
      have hle := pd_rm_le mk b_pool i
      have hnx := ih (i + 1) fuel (by omega) (by omega)
      rw [pd_rm] at hnx
      refine pk_le np i (fun z => by omega) (fun z => br_c (fun q => ?_) (fun q => ?_))
      · rw [yb_bit1 s (by omega), hs i (by omega)] at q
        rw [if_neg (by rw [q.2]; decide)] at hnx
        exact nm_r (nI_1 i) hnx
      · rw [yb_bit1 s (by omega), hs i (by omega)] at q
        have e0 : mk i = 0 := by
          rcases h01 i (by omega) with e | e
          · exact e
          · exact (q ⟨by omega, e⟩).elim
        rw [if_pos e0] at hnx
        exact ⟨pk_in i 12 (by omega), pk_in (pd_rm mk b_pool i).2 12 (by omega), nm_r (by rw [pk_cl (pd_rm mk b_pool i).2, pk_cl i]) (nm_r (nI_1 _) (nm_r (nI_1 i) hnx))⟩
  exact ⟨np + 1, key np 0 (np + 1) (by omega) (by omega)⟩
theorem ym_tk54 {made blocks np t : Nat} {s rep : Int32} {mk : Nat → Int32} (w : pd_wf (b_length, b_op, b_arg, b_ins, b_inCoin, b_inA, b_inB, b_outs, b_amount, b_lock, b_parent, b_height, b_rewardLock, b_many, b_holds, gfe, grw) made blocks) (fq : pd_feq (b_length, b_op, b_arg, b_ins, b_inCoin, b_inA, b_inB, b_outs, b_amount, b_lock, b_parent, b_height, b_rewardLock, b_many, b_holds, gfe, grw) made) (ht : t < made) (hnp : np ≤ 12) (hp : pd_pl b_pool np made) (h01 : ∀ k, k < np → mk k = 0 ∨ mk k = 1) (hs : ∀ k, k < 32 → (bt s k = true ↔ (k < np ∧ mk k = 1)))
    (hwt : ∀ i, i < (pd_ic (b_length, b_op, b_arg, b_ins, b_inCoin, b_inA, b_inB, b_outs, b_amount, b_lock, b_parent, b_height, b_rewardLock, b_many, b_holds, gfe, grw) t).toNatClampNeg → 120 ≤ (b_inCoin (3 * t + i)).toNatClampNeg → b_worth (b_inCoin (3 * t + i)).toNatClampNeg = grw ((b_inCoin (3 * t + i)).toNatClampNeg - 120))
    (hw : ∀ k, k < np → ∀ i, i < (pd_ic (b_length, b_op, b_arg, b_ins, b_inCoin, b_inA, b_inB, b_outs, b_amount, b_lock, b_parent, b_height, b_rewardLock, b_many, b_holds, gfe, grw) (b_pool k).toNatClampNeg).toNatClampNeg → 120 ≤ (b_inCoin (3 * (b_pool k).toNatClampNeg + i)).toNatClampNeg → b_worth (b_inCoin (3 * (b_pool k).toNatClampNeg + i)).toNatClampNeg = grw ((b_inCoin (3 * (b_pool k).toNatClampNeg + i)).toNatClampNeg - 120)) {post : Int32 → SY → Prop}
    (H3 : (∃ k, k < np ∧ mk k = 1 ∧ pd_needs (b_length, b_op, b_arg, b_ins, b_inCoin, b_inA, b_inB, b_outs, b_amount, b_lock, b_parent, b_height, b_rewardLock, b_many, b_holds, gfe, grw) t (b_pool k).toNatClampNeg) → post (-3) (g_made, g_blocks, g_arrivals, g_tip, nI np, g_chainLength, b_op, b_arg, b_length, b_ins, b_inCoin, b_inA, b_inB, b_outs, b_amount, b_lock, b_parent, b_work, b_rewardLock, b_height, b_many, b_holds, b_delivered, b_arrived, b_pool, b_chain, b_from, b_worth, b_within, b_spent, b_stack, b_again, b_chosen))
    (H4 : (¬ ∃ k, k < np ∧ mk k = 1 ∧ pd_needs (b_length, b_op, b_arg, b_ins, b_inCoin, b_inA, b_inB, b_outs, b_amount, b_lock, b_parent, b_height, b_rewardLock, b_many, b_holds, gfe, grw) t (b_pool k).toNatClampNeg) → (∃ k, k < np ∧ mk k = 1) → (rep = 0 ∨ gfe t ≤ pd_mf mk gfe b_pool np) → post (-4) (g_made, g_blocks, g_arrivals, g_tip, nI np, g_chainLength, b_op, b_arg, b_length, b_ins, b_inCoin, b_inA, b_inB, b_outs, b_amount, b_lock, b_parent, b_work, b_rewardLock, b_height, b_many, b_holds, b_delivered, b_arrived, b_pool, b_chain, b_from, b_worth, b_within, b_spent, b_stack, b_again, b_chosen))
    (HG : (¬ ∃ k, k < np ∧ mk k = 1 ∧ pd_needs (b_length, b_op, b_arg, b_ins, b_inCoin, b_inA, b_inB, b_outs, b_amount, b_lock, b_parent, b_height, b_rewardLock, b_many, b_holds, gfe, grw) t (b_pool k).toNatClampNeg) → ((∀ k, k < np → mk k = 0) ∨ (¬ rep = 0 ∧ pd_mf mk gfe b_pool np < gfe t)) → ∃ fuel, wY_take_142 post (nI t) s g_made g_blocks g_arrivals g_tip (nI np) g_chainLength fuel 0 0 b_op b_arg b_length b_ins b_inCoin b_inA b_inB b_outs b_amount b_lock b_parent b_work b_rewardLock b_height b_many b_holds b_delivered b_arrived b_pool b_chain b_from b_worth b_within b_spent b_stack b_again b_chosen) :
    ∃ fuel, wY_take_54 post (nI t) rep s g_made g_blocks g_arrivals g_tip (nI np) g_chainLength b_op b_arg b_length b_ins b_inCoin b_inA b_inB b_outs b_amount b_lock b_parent b_work b_rewardLock b_height b_many b_holds b_delivered b_arrived b_pool b_chain b_from b_worth b_within b_spent b_stack b_again b_chosen fuel 0 0 := by
  have hm := w.2.2.1
  have key : ∀ (d i fuel : Nat), i + d = np → d < fuel → (¬ ∃ k, k < i ∧ mk k = 1 ∧ pd_needs (b_length, b_op, b_arg, b_ins, b_inCoin, b_inA, b_inB, b_outs, b_amount, b_lock, b_parent, b_height, b_rewardLock, b_many, b_holds, gfe, grw) t (b_pool k).toNatClampNeg) → wY_take_54 post (nI t) rep s g_made g_blocks g_arrivals g_tip (nI np) g_chainLength b_op b_arg b_length b_ins b_inCoin b_inA b_inB b_outs b_amount b_lock b_parent b_work b_rewardLock b_height b_many b_holds b_delivered b_arrived b_pool b_chain b_from b_worth b_within b_spent b_stack b_again b_chosen fuel (pd_mf mk gfe b_pool i) (nI i) := by
    intro d
    induction d with
    | zero =>
      intro i fuel hi hf hno
      obtain ⟨fuel, rfl⟩ : ∃ q, fuel = q + 1 := ⟨fuel - 1, by omega⟩
      obtain rfl : i = np := by omega
      refine br_t (nI_le (Nat.le_refl _) (by omega)) (br_c (fun z => HG hno (Or.inl fun k hk => ?_)) (fun z => ?_))
      · rcases h01 k hk with e | e
        · exact e
        · have := (hs k (by omega)).mpr ⟨hk, e⟩
          rw [z, b_0] at this
          exact absurd this (by decide)
      · have hex : ∃ k, k < i ∧ mk k = 1 := by
          rcases Classical.em (∃ k, k < i ∧ mk k = 1) with h | h
          · exact h
          · refine (z (b_ext fun q hq => ?_)).elim
            rw [b_0]
            cases e : bt s q
            · rfl
            · exact (h ⟨q, (hs q hq).mp e⟩).elim
        refine br_c (fun z1 => H4 hno hex (Or.inl z1)) (fun z1 => yq_fee w fq ht hwt (br_c (fun z2 => HG hno (Or.inr ⟨z1, z2⟩)) (fun z2 => H4 hno hex (Or.inr (Int32.not_lt.mp z2)))))
    | succ d ih =>
      intro i fuel hi hf hno
      obtain ⟨fuel, rfl⟩ : ∃ q, fuel = q + 1 := ⟨fuel - 1, by omega⟩
      obtain ⟨u, hu, eu⟩ := hp i (by omega)
      have euc := pd_cl eu (by omega)
      have hno' : ¬ (mk i = 1 ∧ pd_needs (b_length, b_op, b_arg, b_ins, b_inCoin, b_inA, b_inB, b_outs, b_amount, b_lock, b_parent, b_height, b_rewardLock, b_many, b_holds, gfe, grw) t u) → ¬ ∃ k, k < i + 1 ∧ mk k = 1 ∧ pd_needs (b_length, b_op, b_arg, b_ins, b_inCoin, b_inA, b_inB, b_outs, b_amount, b_lock, b_parent, b_height, b_rewardLock, b_many, b_holds, gfe, grw) t (b_pool k).toNatClampNeg := by
        intro q ⟨k, k1, k2, k3⟩
        by_cases e : k = i
        · subst e; rw [euc] at k3; exact q ⟨k2, k3⟩
        · exact hno ⟨k, by omega, k2, k3⟩
      have hnx := fun q => ih (i + 1) fuel (by omega) (by omega) (hno' q)
      rw [pd_mf] at hnx
      have hwi := hw i (by omega)
      rw [euc] at hwi
      refine pk_le np i (fun z => by omega) (fun z => br_c (fun q => ?_) (fun q => ⟨pk_in i 12 (by omega), ?_⟩))
      · rw [yb_bit0 s (by omega), hs i (by omega)] at q
        have e0 : mk i = 0 := by
          rcases h01 i (by omega) with e | e
          · exact e
          · exact (q ⟨by omega, e⟩).elim
        rw [if_pos e0] at hnx
        exact nm_r (nI_1 i) (hnx fun q' => by rw [e0] at q'; exact absurd q'.1 (by decide))
      · rw [yb_bit0 s (by omega), hs i (by omega)] at q
        have e1 : mk i = 1 := by
          rcases h01 i (by omega) with e | e
          · exact (q (fun q' => by rw [e] at q'; exact absurd q'.2 (by decide))).elim
          · exact e
        rw [if_neg (by rw [e1]; decide), euc] at hnx
        rw [pk_cl i, eu]
        exact yq_needs w ht (by omega) (fun z4 => br_f (by decide) (H3 ⟨i, by omega, e1, by rw [euc]; exact z4⟩)) (fun z4 => br_t rfl ⟨pk_in i 12 (by omega), yq_fee w fq hu hwi (nm_e (nm_r (nI_1 i) (hnx fun q' => z4 q'.2)))⟩)
  exact ⟨np + 1, key np 0 (np + 1) (by omega) (by omega) (fun ⟨k, hk, _⟩ => by omega)⟩
end
end
section
/-! X lets in, Y takes: side by side -/
section
variable {f_stackSize f_transactions f_putCount f_blocks f_tip f_poolCount f_queueCount : Int32} {a_tokenCount a_tokenOp a_tokenValue a_scriptInUse a_stack a_inputCount a_inputCoin a_inputA a_inputB a_outputCount a_outputAmount a_outputScript a_feeOf a_putRow a_parentOf a_heightOf a_chainWork a_blockState a_rewardAmount a_rewardScript a_blockSize a_blockTransaction a_laidBlock a_coinHeight a_coinSpent a_transactionHeight a_poolRow a_marked a_queue : Nat → Int32}
variable {g_made g_blocks g_arrivals g_tip g_pooled g_chainLength : Int32} {b_op b_arg b_length b_ins b_inCoin b_inA b_inB b_outs b_amount b_lock b_parent b_work b_rewardLock b_height b_many b_holds b_delivered b_arrived b_pool b_chain b_from b_worth b_within b_spent b_stack b_again b_chosen gfe grw : Nat → Int32}
theorem ad_take {made blocks np tp n : Nat} {S : pd_S} {pl : Nat → Int32} (w : pd_wf (a_tokenCount, a_tokenOp, a_tokenValue, a_inputCount, a_inputCoin, a_inputA, a_inputB, a_outputCount, a_outputAmount, a_outputScript, a_parentOf, a_heightOf, a_rewardScript, a_blockSize, a_blockTransaction, a_feeOf, a_rewardAmount) made blocks) (wE : pd_wf (b_length, b_op, b_arg, b_ins, b_inCoin, b_inA, b_inB, b_outs, b_amount, b_lock, b_parent, b_height, b_rewardLock, b_many, b_holds, gfe, grw) made blocks) (ag : pd_ag (a_tokenCount, a_tokenOp, a_tokenValue, a_inputCount, a_inputCoin, a_inputA, a_inputB, a_outputCount, a_outputAmount, a_outputScript, a_parentOf, a_heightOf, a_rewardScript, a_blockSize, a_blockTransaction, a_feeOf, a_rewardAmount) (b_length, b_op, b_arg, b_ins, b_inCoin, b_inA, b_inB, b_outs, b_amount, b_lock, b_parent, b_height, b_rewardLock, b_many, b_holds, gfe, grw) made blocks) (tk : fx_tok a_tokenCount a_tokenOp a_tokenValue) (tkE : fx_tok b_length b_op b_arg) (fq : pd_feq (b_length, b_op, b_arg, b_ins, b_inCoin, b_inA, b_inB, b_outs, b_amount, b_lock, b_parent, b_height, b_rewardLock, b_many, b_holds, gfe, grw) made)
    (I : pd_inv (a_tokenCount, a_tokenOp, a_tokenValue, a_inputCount, a_inputCoin, a_inputA, a_inputB, a_outputCount, a_outputAmount, a_outputScript, a_parentOf, a_heightOf, a_rewardScript, a_blockSize, a_blockTransaction, a_feeOf, a_rewardAmount) made blocks S) (rg : pd_rng S.1) (sp : ∀ c, c < 152 → ¬ S.2.1 c = 0 → 0 ≤ S.1 c)
    (htp : tp < blocks) (eh : a_heightOf tp = nI n) (eh' : b_height tp = nI n) (hn : n < 32) (P : pd_pool (a_tokenCount, a_tokenOp, a_tokenValue, a_inputCount, a_inputCoin, a_inputA, a_inputB, a_outputCount, a_outputAmount, a_outputScript, a_parentOf, a_heightOf, a_rewardScript, a_blockSize, a_blockTransaction, a_feeOf, a_rewardAmount) S made pl np) (x rep : Int32) :
    ∃ (r : Int32) (pl' : Nat → Int32) (np' : Nat), pd_pool (a_tokenCount, a_tokenOp, a_tokenValue, a_inputCount, a_inputCoin, a_inputA, a_inputB, a_outputCount, a_outputAmount, a_outputScript, a_parentOf, a_heightOf, a_rewardScript, a_blockSize, a_blockTransaction, a_feeOf, a_rewardAmount) S made pl' np'
      ∧ (∀ (post : Int32 → SX → Prop) (ss0 qc0 : Int32) (st0 mk0 lb0 q0 : Nat → Int32), (∀ ss st mk, post r (ss, nI made, f_putCount, f_blocks, nI tp, nI np', qc0, a_tokenCount, a_tokenOp, a_tokenValue, a_scriptInUse, st, a_inputCount, a_inputCoin, a_inputA, a_inputB, a_outputCount, a_outputAmount, a_outputScript, a_feeOf, a_putRow, a_parentOf, a_heightOf, a_chainWork, a_blockState, a_rewardAmount, a_rewardScript, a_blockSize, a_blockTransaction, lb0, S.1, S.2.1, S.2.2, pl', mk, q0)) → wpX_admit post (ss0, nI made, f_putCount, f_blocks, nI tp, nI np, qc0, a_tokenCount, a_tokenOp, a_tokenValue, a_scriptInUse, st0, a_inputCount, a_inputCoin, a_inputA, a_inputB, a_outputCount, a_outputAmount, a_outputScript, a_feeOf, a_putRow, a_parentOf, a_heightOf, a_chainWork, a_blockState, a_rewardAmount, a_rewardScript, a_blockSize, a_blockTransaction, lb0, S.1, S.2.1, S.2.2, pl, mk0, q0) x rep)
      ∧ (∀ (post : Int32 → SY → Prop) (cl0 : Int32) (st0 wo0 ch0 ag0 : Nat → Int32), pd_wor (b_length, b_op, b_arg, b_ins, b_inCoin, b_inA, b_inB, b_outs, b_amount, b_lock, b_parent, b_height, b_rewardLock, b_many, b_holds, gfe, grw) S.1 wo0 → (∀ st, post r (nI made, g_blocks, g_arrivals, nI tp, nI np', cl0, b_op, b_arg, b_length, b_ins, b_inCoin, b_inA, b_inB, b_outs, b_amount, b_lock, b_parent, b_work, b_rewardLock, b_height, b_many, b_holds, b_delivered, b_arrived, pl', ch0, S.1, wo0, S.2.2, S.2.1, st, ag0, b_chosen)) → wpY_take post (nI made, g_blocks, g_arrivals, nI tp, nI np, cl0, b_op, b_arg, b_length, b_ins, b_inCoin, b_inA, b_inB, b_outs, b_amount, b_lock, b_parent, b_work, b_rewardLock, b_height, b_many, b_holds, b_delivered, b_arrived, pl, ch0, S.1, wo0, S.2.2, S.2.1, st0, ag0, b_chosen) x rep) := by
  have hm := w.2.2.1
  have hbk := w.2.1
  have hnp := P.1
  have hp := pd_pool_pl P
  rcases pk_ix x (n := made) (by omega) with hx | hx | ⟨t, ht, rfl⟩
  · exact ⟨-2, pl, np, P, fun post ss0 qc0 st0 mk0 lb0 q0 h => br_t hx (br_t rfl (h _ _ _)), fun post cl0 st0 wo0 ch0 ag0 wr h => br_t hx (br_t rfl (h _))⟩
  · have hx0 : ¬ x < 0 := Int32.not_lt.mpr (Int32.le_trans (nI_pos' (by omega)) hx)
    exact ⟨-2, pl, np, P, fun post ss0 qc0 st0 mk0 lb0 q0 h => br_f hx0 (br_t hx (br_t rfl (h _ _ _))), fun post cl0 st0 wo0 ch0 ag0 wr h => br_f hx0 (br_t hx (br_t rfl (h _)))⟩
  have hx0 : ¬ nI t < 0 := nI_pos (by omega)
  have hx1 : ¬ nI made ≤ nI t := nI_ge ht (by omega)
  have ect : (nI t).toNatClampNeg = t := pk_cl t
  by_cases hth : 0 ≤ S.2.2 t
  · refine ⟨-2, pl, np, P, fun post ss0 qc0 st0 mk0 lb0 q0 h => br_f hx0 (br_f hx1 (br_f (by decide) ⟨pk_in t 40 (by omega), ?_⟩)), fun post cl0 st0 wo0 ch0 ag0 wr h => br_f hx0 (br_f hx1 (br_f (by decide) ⟨pk_in t 40 (by omega), ?_⟩))⟩
    · rw [ect]; exact br_t hth (h _ _ _)
    · rw [ect]; exact br_t hth (h _)
  have hth' : S.2.2 t < 0 := Int32.not_le.mp hth
  by_cases hin : ∃ k, k < np ∧ pl k = nI t
  · refine ⟨-2, pl, np, P, fun post ss0 qc0 st0 mk0 lb0 q0 h => br_f hx0 (br_f hx1 (br_f (by decide) ⟨pk_in t 40 (by omega), ?_⟩)), fun post cl0 st0 wo0 ch0 ag0 wr h => br_f hx0 (br_f hx1 (br_f (by decide) ⟨pk_in t 40 (by omega), ?_⟩))⟩
    · rw [ect]; exact br_f hth (xm_inPool hnp rfl (fun _ => br_f (by decide) (h _ _ _)) (fun q => (q hin).elim))
    · rw [ect]; exact br_f hth (yq_pooled hnp rfl (fun _ => br_f (by decide) (h _)) (fun q => (q hin).elim))
  -- the pool's coins are below 120 and not spent
  have hPc : ∀ c, c < 152 → (∃ k, k < np ∧ pl k = nI (c / 3)) → c < 120 ∧ S.2.1 c = 0 := by
    intro c hc ⟨k, k1, k2⟩
    obtain ⟨u, p1, p2, p3, _⟩ := P.2 k k1
    rw [k2, nI_eq (by omega) (by omega)] at p2
    have h120 : c < 120 := by omega
    refine ⟨h120, ?_⟩
    rcases Classical.em (S.2.1 c = 0) with e | e
    · exact e
    · have := I.2.2.2.2.1 c h120 (sp c hc e)
      rw [p2] at this
      exact absurd this (Int32.not_le.mpr p3)
  have ehc : a_heightOf (nI tp).toNatClampNeg + 1 = nI (n + 1) := by rw [pk_cl tp, eh, nI_1]
  have hmay := pd_ag_may (h := nI (n + 1)) (S := S) (P := fun c => ∃ k, k < np ∧ pl k = nI (c / 3)) w ag ht
  by_cases hM : pd_may (a_tokenCount, a_tokenOp, a_tokenValue, a_inputCount, a_inputCoin, a_inputA, a_inputB, a_outputCount, a_outputAmount, a_outputScript, a_parentOf, a_heightOf, a_rewardScript, a_blockSize, a_blockTransaction, a_feeOf, a_rewardAmount) S (nI (n + 1)) (fun c => ∃ k, k < np ∧ pl k = nI (c / 3)) t
  rotate_left
  · refine ⟨-3, pl, np, P, fun post ss0 qc0 st0 mk0 lb0 q0 h => br_f hx0 (br_f hx1 (br_f (by decide) ⟨pk_in t 40 (by omega), ?_⟩)), fun post cl0 st0 wo0 ch0 ag0 wr h => br_f hx0 (br_f hx1 (br_f (by decide) ⟨pk_in t 40 (by omega), ?_⟩))⟩
    · rw [ect, ehc]
      exact br_f hth (xm_inPool hnp rfl (fun q => (hin q).elim) (fun _ => br_t rfl ⟨pk_in tp 32 (by omega), xm_may w tk ht hnp rfl _ (fun z => absurd z (by decide)) (fun _ c _ => Iff.rfl) (fun q => (hM q).elim) (fun _ ss st => br_t rfl (h _ _ _))⟩))
    · rw [ect]
      exact br_f hth (yq_pooled hnp rfl (fun q => (hin q).elim) (fun _ => br_t rfl (ym_isLate wE tkE fq ht hnp rfl rfl (by omega) eh' hn rg wr hPc (fun q => (hM (hmay.mp q)).elim) (fun _ st => br_f (by decide) (h _)))))
  -- it may come in, if its rivals let it
  obtain ⟨mk, hms⟩ := pd_ms_ex (a_tokenCount, a_tokenOp, a_tokenValue, a_inputCount, a_inputCoin, a_inputA, a_inputB, a_outputCount, a_outputAmount, a_outputScript, a_parentOf, a_heightOf, a_rewardScript, a_blockSize, a_blockTransaction, a_feeOf, a_rewardAmount) pl t np
  have hmsE := pd_ms_ag w ag ht hp hms
  have h01 : ∀ k, k < np → mk k = 0 ∨ mk k = 1 := fun k hk => (hms k hk).1
  have topo : ∀ i j, i < np → j < np → pd_needs (b_length, b_op, b_arg, b_ins, b_inCoin, b_inA, b_inB, b_outs, b_amount, b_lock, b_parent, b_height, b_rewardLock, b_many, b_holds, gfe, grw) (pl i).toNatClampNeg (pl j).toNatClampNeg → j < i := by
    intro i j hi hj q
    obtain ⟨u, hu, eu⟩ := hp i hi
    have euc := pd_cl eu (by omega)
    refine pd_pool_topo hm I P hi hj ?_
    rw [euc] at q ⊢
    exact (pd_ag_needs ag hu).mp q
  have hwt : ∀ wo0, pd_wor (b_length, b_op, b_arg, b_ins, b_inCoin, b_inA, b_inB, b_outs, b_amount, b_lock, b_parent, b_height, b_rewardLock, b_many, b_holds, gfe, grw) S.1 wo0 → ∀ i, i < (pd_ic (b_length, b_op, b_arg, b_ins, b_inCoin, b_inA, b_inB, b_outs, b_amount, b_lock, b_parent, b_height, b_rewardLock, b_many, b_holds, gfe, grw) t).toNatClampNeg → 120 ≤ (b_inCoin (3 * t + i)).toNatClampNeg → wo0 (b_inCoin (3 * t + i)).toNatClampNeg = grw ((b_inCoin (3 * t + i)).toNatClampNeg - 120) := by
    intro wo0 wr i hi h120
    have q := (hmay.mpr hM).1 i hi
    obtain ⟨c, hc1, _, ecc, _⟩ := pd_wf_co wE ht hi
    have ecc' : (b_inCoin (3 * t + i)).toNatClampNeg = c := ecc
    rw [ecc'] at h120 ⊢
    rw [ecc, pd_from_f (fun q => by have := (hPc c hc1 q).1; omega)] at q
    rw [wr c hc1 q.1]
    exact if_neg (by omega)
  have hw : ∀ wo0, pd_wor (b_length, b_op, b_arg, b_ins, b_inCoin, b_inA, b_inB, b_outs, b_amount, b_lock, b_parent, b_height, b_rewardLock, b_many, b_holds, gfe, grw) S.1 wo0 → ∀ k, k < np → ∀ i, i < (pd_ic (b_length, b_op, b_arg, b_ins, b_inCoin, b_inA, b_inB, b_outs, b_amount, b_lock, b_parent, b_height, b_rewardLock, b_many, b_holds, gfe, grw) (pl k).toNatClampNeg).toNatClampNeg → 120 ≤ (b_inCoin (3 * (pl k).toNatClampNeg + i)).toNatClampNeg → wo0 (b_inCoin (3 * (pl k).toNatClampNeg + i)).toNatClampNeg = grw ((b_inCoin (3 * (pl k).toNatClampNeg + i)).toNatClampNeg - 120) := by
    intro wo0 wr k hk i hi h120
    obtain ⟨u, p1, p2, p3, p4, p5⟩ := P.2 k hk
    have euc := pd_cl p2 (by omega)
    rw [euc] at hi h120 ⊢
    obtain ⟨a1, _, _, a4, _⟩ := ag.1 u p1
    rw [a1] at hi
    have eco : b_inCoin (3 * u + i) = a_inputCoin (3 * u + i) := (a4 i hi).1
    obtain ⟨c, hc1, _, ecc, _⟩ := pd_wf_co w p1 hi
    have ecc' : (a_inputCoin (3 * u + i)).toNatClampNeg = c := ecc
    have q := p4 i hi
    rw [ecc] at q
    rw [eco, ecc'] at h120 ⊢
    rcases q with q | q
    · rw [wr c hc1 q.1]
      exact if_neg (by omega)
    · omega
  have efe : gfe t = a_feeOf t := (ag.1 t ht).2.2.1
  have emf : pd_mf mk gfe pl np = pd_mf mk a_feeOf pl np := pd_mf_eq np (fun _ _ => rfl) (fun k hk => by
    obtain ⟨u, hu, eu⟩ := hp k hk
    rw [pd_cl eu (by omega)]
    exact (ag.1 u hu).2.2.1)
  have hnd : ∀ k, k < np → (pd_needs (b_length, b_op, b_arg, b_ins, b_inCoin, b_inA, b_inB, b_outs, b_amount, b_lock, b_parent, b_height, b_rewardLock, b_many, b_holds, gfe, grw) t (pl k).toNatClampNeg ↔ pd_needs (a_tokenCount, a_tokenOp, a_tokenValue, a_inputCount, a_inputCoin, a_inputA, a_inputB, a_outputCount, a_outputAmount, a_outputScript, a_parentOf, a_heightOf, a_rewardScript, a_blockSize, a_blockTransaction, a_feeOf, a_rewardAmount) t (pl k).toNatClampNeg) := fun k _ => pd_ag_needs ag ht
  -- X up to the rivals, Y up to the rivals
  have goX : ∀ (post : Int32 → SX → Prop) (ss0 qc0 : Int32) (st0 mk0 lb0 q0 : Nat → Int32), (∀ (mk' : Nat → Int32) (any : Int32) (ss : Int32) (st : Nat → Int32), (∀ k, k < np → mk' k = mk k) → ((any = 0 ∧ ∀ k, k < np → mk k = 0) ∨ (any = 1 ∧ ∃ k, k < np ∧ mk k = 1)) →
      (((any = 0 → (wX_admit_94 post (nI t) ss (nI made) f_putCount f_blocks (nI tp) (nI np) qc0 a_tokenCount a_tokenOp a_tokenValue a_scriptInUse st a_inputCount a_inputCoin a_inputA a_inputB a_outputCount a_outputAmount a_outputScript a_feeOf a_putRow a_parentOf a_heightOf a_chainWork a_blockState a_rewardAmount a_rewardScript a_blockSize a_blockTransaction lb0 S.1 S.2.1 S.2.2 pl mk' q0)) ∧ (¬ any = 0 → (wpX_hasMarkedOutput (fun r_160 => (((r_160 = 0 → (((rep = 0 → (post (-4) (ss, nI made, f_putCount, f_blocks, nI tp, nI np, qc0, a_tokenCount, a_tokenOp, a_tokenValue, a_scriptInUse, st, a_inputCount, a_inputCoin, a_inputA, a_inputB, a_outputCount, a_outputAmount, a_outputScript, a_feeOf, a_putRow, a_parentOf, a_heightOf, a_chainWork, a_blockState, a_rewardAmount, a_rewardScript, a_blockSize, a_blockTransaction, lb0, S.1, S.2.1, S.2.2, pl, mk', q0))) ∧ (¬ rep = 0 → (vp_in (nI t) 40 ∧ (wpX_markedFees (fun r_200 => (((r_200 < (a_feeOf (nI t).toNatClampNeg) → (wpX_removeMarked (fun u => match u with | (f_stackSize, f_transactions, f_putCount, f_blocks, f_tip, f_poolCount, f_queueCount, a_tokenCount, a_tokenOp, a_tokenValue, a_scriptInUse, a_stack, a_inputCount, a_inputCoin, a_inputA, a_inputB, a_outputCount, a_outputAmount, a_outputScript, a_feeOf, a_putRow, a_parentOf, a_heightOf, a_chainWork, a_blockState, a_rewardAmount, a_rewardScript, a_blockSize, a_blockTransaction, a_laidBlock, a_coinHeight, a_coinSpent, a_transactionHeight, a_poolRow, a_marked, a_queue) => (wX_admit_94 post (nI t) f_stackSize f_transactions f_putCount f_blocks f_tip f_poolCount f_queueCount a_tokenCount a_tokenOp a_tokenValue a_scriptInUse a_stack a_inputCount a_inputCoin a_inputA a_inputB a_outputCount a_outputAmount a_outputScript a_feeOf a_putRow a_parentOf a_heightOf a_chainWork a_blockState a_rewardAmount a_rewardScript a_blockSize a_blockTransaction a_laidBlock a_coinHeight a_coinSpent a_transactionHeight a_poolRow a_marked a_queue)) (ss, nI made, f_putCount, f_blocks, nI tp, nI np, qc0, a_tokenCount, a_tokenOp, a_tokenValue, a_scriptInUse, st, a_inputCount, a_inputCoin, a_inputA, a_inputB, a_outputCount, a_outputAmount, a_outputScript, a_feeOf, a_putRow, a_parentOf, a_heightOf, a_chainWork, a_blockState, a_rewardAmount, a_rewardScript, a_blockSize, a_blockTransaction, lb0, S.1, S.2.1, S.2.2, pl, mk', q0))) ∧ (¬ r_200 < (a_feeOf (nI t).toNatClampNeg) → (post (-4) (ss, nI made, f_putCount, f_blocks, nI tp, nI np, qc0, a_tokenCount, a_tokenOp, a_tokenValue, a_scriptInUse, st, a_inputCount, a_inputCoin, a_inputA, a_inputB, a_outputCount, a_outputAmount, a_outputScript, a_feeOf, a_putRow, a_parentOf, a_heightOf, a_chainWork, a_blockState, a_rewardAmount, a_rewardScript, a_blockSize, a_blockTransaction, lb0, S.1, S.2.1, S.2.2, pl, mk', q0)))))) (ss, nI made, f_putCount, f_blocks, nI tp, nI np, qc0, a_tokenCount, a_tokenOp, a_tokenValue, a_scriptInUse, st, a_inputCount, a_inputCoin, a_inputA, a_inputB, a_outputCount, a_outputAmount, a_outputScript, a_feeOf, a_putRow, a_parentOf, a_heightOf, a_chainWork, a_blockState, a_rewardAmount, a_rewardScript, a_blockSize, a_blockTransaction, lb0, S.1, S.2.1, S.2.2, pl, mk', q0))))))) ∧ (¬ r_160 = 0 → (post (-3) (ss, nI made, f_putCount, f_blocks, nI tp, nI np, qc0, a_tokenCount, a_tokenOp, a_tokenValue, a_scriptInUse, st, a_inputCount, a_inputCoin, a_inputA, a_inputB, a_outputCount, a_outputAmount, a_outputScript, a_feeOf, a_putRow, a_parentOf, a_heightOf, a_chainWork, a_blockState, a_rewardAmount, a_rewardScript, a_blockSize, a_blockTransaction, lb0, S.1, S.2.1, S.2.2, pl, mk', q0)))))) (ss, nI made, f_putCount, f_blocks, nI tp, nI np, qc0, a_tokenCount, a_tokenOp, a_tokenValue, a_scriptInUse, st, a_inputCount, a_inputCoin, a_inputA, a_inputB, a_outputCount, a_outputAmount, a_outputScript, a_feeOf, a_putRow, a_parentOf, a_heightOf, a_chainWork, a_blockState, a_rewardAmount, a_rewardScript, a_blockSize, a_blockTransaction, lb0, S.1, S.2.1, S.2.2, pl, mk', q0) (nI t)))))) → wpX_admit post (ss0, nI made, f_putCount, f_blocks, nI tp, nI np, qc0, a_tokenCount, a_tokenOp, a_tokenValue, a_scriptInUse, st0, a_inputCount, a_inputCoin, a_inputA, a_inputB, a_outputCount, a_outputAmount, a_outputScript, a_feeOf, a_putRow, a_parentOf, a_heightOf, a_chainWork, a_blockState, a_rewardAmount, a_rewardScript, a_blockSize, a_blockTransaction, lb0, S.1, S.2.1, S.2.2, pl, mk0, q0) (nI t) rep := by
    intro post ss0 qc0 st0 mk0 lb0 q0 h
    refine br_f hx0 (br_f hx1 (br_f (by decide) ⟨pk_in t 40 (by omega), ?_⟩))
    rw [ect, ehc]
    refine br_f hth (xm_inPool hnp rfl (fun q => (hin q).elim) (fun _ => br_t rfl ⟨pk_in tp 32 (by omega), xm_may w tk ht hnp rfl _ (fun z => absurd z (by decide)) (fun _ c _ => Iff.rfl) (fun _ ss st => br_f (by decide) ?_) (fun q => (q hM).elim)⟩))
    refine xm_marks w ht hnp rfl hp fun mk' any hms' hany => ?_
    have hu := pd_ms_uniq hms' hms
    have hany' : (any = 0 ∧ ∀ k, k < np → mk k = 0) ∨ (any = 1 ∧ ∃ k, k < np ∧ mk k = 1) := by
      rcases hany with ⟨e, h1⟩ | ⟨e, k, k1, k2⟩
      · exact Or.inl ⟨e, fun k hk => by rw [← hu k hk]; exact h1 k hk⟩
      · exact Or.inr ⟨e, k, k1, by rw [← hu k k1]; exact k2⟩
    have := h mk' any ss st hu hany'
    rw [ect] at this
    exact this
  have goY : ∀ (post : Int32 → SY → Prop) (cl0 : Int32) (st0 wo0 ch0 ag0 : Nat → Int32), pd_wor (b_length, b_op, b_arg, b_ins, b_inCoin, b_inA, b_inB, b_outs, b_amount, b_lock, b_parent, b_height, b_rewardLock, b_many, b_holds, gfe, grw) S.1 wo0 → (∀ (s : Int32) (st : Nat → Int32), (∀ k, k < 32 → (bt s k = true ↔ (k < np ∧ mk k = 1))) → ∃ fuel, wY_take_54 post (nI t) rep s (nI made) g_blocks g_arrivals (nI tp) (nI np) cl0 b_op b_arg b_length b_ins b_inCoin b_inA b_inB b_outs b_amount b_lock b_parent b_work b_rewardLock b_height b_many b_holds b_delivered b_arrived pl ch0 S.1 wo0 S.2.2 S.2.1 st ag0 b_chosen fuel 0 0) → wpY_take post (nI made, g_blocks, g_arrivals, nI tp, nI np, cl0, b_op, b_arg, b_length, b_ins, b_inCoin, b_inA, b_inB, b_outs, b_amount, b_lock, b_parent, b_work, b_rewardLock, b_height, b_many, b_holds, b_delivered, b_arrived, pl, ch0, S.1, wo0, S.2.2, S.2.1, st0, ag0, b_chosen) (nI t) rep := by
    intro post cl0 st0 wo0 ch0 ag0 wr h
    refine br_f hx0 (br_f hx1 (br_f (by decide) ⟨pk_in t 40 (by omega), ?_⟩))
    rw [ect]
    refine br_f hth (yq_pooled hnp rfl (fun q => (hin q).elim) (fun _ => br_t rfl (ym_isLate wE tkE fq ht hnp rfl rfl (by omega) eh' hn rg wr hPc (fun _ st => br_t rfl ?_) (fun q => (q (hmay.mpr hM)).elim))))
    exact ym_rivals wE ht hnp rfl hp hmsE topo fun s hs => h s st hs
  by_cases hL : ∃ k, k < np ∧ mk k = 1 ∧ pd_needs (a_tokenCount, a_tokenOp, a_tokenValue, a_inputCount, a_inputCoin, a_inputA, a_inputB, a_outputCount, a_outputAmount, a_outputScript, a_parentOf, a_heightOf, a_rewardScript, a_blockSize, a_blockTransaction, a_feeOf, a_rewardAmount) t (pl k).toNatClampNeg
  · -- it needs an output of a rival
    refine ⟨-3, pl, np, P, fun post ss0 qc0 st0 mk0 lb0 q0 h => goX post ss0 qc0 st0 mk0 lb0 q0 fun mk' any ss st hu hany => ?_, fun post cl0 st0 wo0 ch0 ag0 wr h => goY post cl0 st0 wo0 ch0 ag0 wr fun s st hs => ?_⟩
    · obtain ⟨k, k1, k2, k3⟩ := hL
      have hne : ¬ any = 0 := by
        rcases hany with ⟨_, q⟩ | ⟨e, _⟩
        · rw [q k k1] at k2; exact absurd k2 (by decide)
        · rw [e]; decide
      refine br_f hne (xm_hasMarked w ht hnp rfl hp (fun _ => br_f (by decide) (h _ _ _)) (fun q => (q ⟨k, k1, ?_, k3⟩).elim))
      rw [hu k k1, k2]; decide
    · refine ym_tk54 wE fq ht hnp hp h01 hs (hwt wo0 wr) (hw wo0 wr) (fun _ => h _) (fun q => ?_) (fun q => ?_)
      · obtain ⟨k, k1, k2, k3⟩ := hL
        exact (q ⟨k, k1, k2, (hnd k k1).mpr k3⟩).elim
      · obtain ⟨k, k1, k2, k3⟩ := hL
        exact (q ⟨k, k1, k2, (hnd k k1).mpr k3⟩).elim
  have hLY : ¬ ∃ k, k < np ∧ mk k = 1 ∧ pd_needs (b_length, b_op, b_arg, b_ins, b_inCoin, b_inA, b_inB, b_outs, b_amount, b_lock, b_parent, b_height, b_rewardLock, b_many, b_holds, gfe, grw) t (pl k).toNatClampNeg := fun ⟨k, k1, k2, k3⟩ => hL ⟨k, k1, k2, (hnd k k1).mp k3⟩
  by_cases hC : (∃ k, k < np ∧ mk k = 1) ∧ (rep = 0 ∨ a_feeOf t ≤ pd_mf mk a_feeOf pl np)
  · -- too cheap
    obtain ⟨hex, hch⟩ := hC
    have hne0 : ¬ ∀ k, k < np → mk k = 0 := fun q => by
      obtain ⟨k, k1, k2⟩ := hex
      rw [q k k1] at k2; exact absurd k2 (by decide)
    refine ⟨-4, pl, np, P, fun post ss0 qc0 st0 mk0 lb0 q0 h => goX post ss0 qc0 st0 mk0 lb0 q0 fun mk' any ss st hu hany => ?_, fun post cl0 st0 wo0 ch0 ag0 wr h => goY post cl0 st0 wo0 ch0 ag0 wr fun s st hs => ?_⟩
    · have hne : ¬ any = 0 := by
        rcases hany with ⟨_, q⟩ | ⟨e, _⟩
        · exact (hne0 q).elim
        · rw [e]; decide
      refine br_f hne (xm_hasMarked w ht hnp rfl hp (fun q => ?_) (fun _ => br_t rfl (br_c (fun _ => h _ _ _) (fun z => ⟨pk_in t 40 (by omega), xm_markedFees hm hnp rfl hp ?_⟩))))
      · obtain ⟨j, j1, j2, j3⟩ := q
        rw [hu j j1] at j2
        rcases h01 j j1 with e | e
        · exact (j2 e).elim
        · exact (hL ⟨j, j1, e, j3⟩).elim
      · have hle : a_feeOf t ≤ pd_mf mk a_feeOf pl np := by
          rcases hch with q | q
          · exact (z q).elim
          · exact q
        rw [ect, pd_mf_eq np hu (fun _ _ => rfl)]
        exact br_f (Int32.not_lt.mpr hle) (h _ _ _)
    · refine ym_tk54 wE fq ht hnp hp h01 hs (hwt wo0 wr) (hw wo0 wr) (fun q => (hLY q).elim) (fun _ _ _ => h _) (fun _ q => ?_)
      rcases q with q | ⟨q1, q2⟩
      · exact (hne0 q).elim
      · rcases hch with z | z
        · exact (q1 z).elim
        · rw [emf, efe] at q2
          exact absurd q2 (Int32.not_lt.mpr z)
  -- it comes in, or finds no room
  have hgo : (∀ k, k < np → mk k = 0) ∨ (¬ rep = 0 ∧ pd_mf mk a_feeOf pl np < a_feeOf t) := by
    rcases Classical.em (∃ k, k < np ∧ mk k = 1) with h | h
    · right
      refine ⟨fun z => hC ⟨h, Or.inl z⟩, ?_⟩
      rcases Classical.em (pd_mf mk a_feeOf pl np < a_feeOf t) with z | z
      · exact z
      · exact (hC ⟨h, Or.inr (Int32.not_lt.mp z)⟩).elim
    · left
      intro k hk
      rcases h01 k hk with e | e
      · exact e
      · exact (h ⟨k, hk, e⟩).elim
  have Prm := pd_pool_rm hm P hms
  have h12 := Prm.1
  have X94 : ∀ (post : Int32 → SX → Prop) (ss : Int32) (st mk' : Nat → Int32) (qc0 : Int32) (lb0 q0 : Nat → Int32), ((pd_rm mk pl np).2 = 12 → post (-5) (ss, nI made, f_putCount, f_blocks, nI tp, nI (pd_rm mk pl np).2, qc0, a_tokenCount, a_tokenOp, a_tokenValue, a_scriptInUse, st, a_inputCount, a_inputCoin, a_inputA, a_inputB, a_outputCount, a_outputAmount, a_outputScript, a_feeOf, a_putRow, a_parentOf, a_heightOf, a_chainWork, a_blockState, a_rewardAmount, a_rewardScript, a_blockSize, a_blockTransaction, lb0, S.1, S.2.1, S.2.2, (pd_rm mk pl np).1, mk', q0)) →
      ((pd_rm mk pl np).2 < 12 → post (nI ((pd_rm mk pl np).2 + 1)) (ss, nI made, f_putCount, f_blocks, nI tp, nI ((pd_rm mk pl np).2 + 1), qc0, a_tokenCount, a_tokenOp, a_tokenValue, a_scriptInUse, st, a_inputCount, a_inputCoin, a_inputA, a_inputB, a_outputCount, a_outputAmount, a_outputScript, a_feeOf, a_putRow, a_parentOf, a_heightOf, a_chainWork, a_blockState, a_rewardAmount, a_rewardScript, a_blockSize, a_blockTransaction, lb0, S.1, S.2.1, S.2.2, upd (pd_rm mk pl np).1 (pd_rm mk pl np).2 (nI t), mk', q0)) →
      wX_admit_94 post (nI t) ss (nI made) f_putCount f_blocks (nI tp) (nI (pd_rm mk pl np).2) qc0 a_tokenCount a_tokenOp a_tokenValue a_scriptInUse st a_inputCount a_inputCoin a_inputA a_inputB a_outputCount a_outputAmount a_outputScript a_feeOf a_putRow a_parentOf a_heightOf a_chainWork a_blockState a_rewardAmount a_rewardScript a_blockSize a_blockTransaction lb0 S.1 S.2.1 S.2.2 ((pd_rm mk pl np).1) mk' q0 := by
    intro post ss st mk' qc0 lb0 q0 h5 h1
    exact pk_eq (pd_rm mk pl np).2 12 (fun e => h5 e) (fun e => ⟨pk_in (pd_rm mk pl np).2 12 (by omega), nm_r (by rw [pk_cl (pd_rm mk pl np).2]) (nm_r (nI_1 _) (h1 (by omega)))⟩)
  have goX2 : ∀ (post : Int32 → SX → Prop) (ss0 qc0 : Int32) (st0 mk0 lb0 q0 : Nat → Int32), (∀ (ss : Int32) (st mk' : Nat → Int32), wX_admit_94 post (nI t) ss (nI made) f_putCount f_blocks (nI tp) (nI (pd_rm mk pl np).2) qc0 a_tokenCount a_tokenOp a_tokenValue a_scriptInUse st a_inputCount a_inputCoin a_inputA a_inputB a_outputCount a_outputAmount a_outputScript a_feeOf a_putRow a_parentOf a_heightOf a_chainWork a_blockState a_rewardAmount a_rewardScript a_blockSize a_blockTransaction lb0 S.1 S.2.1 S.2.2 ((pd_rm mk pl np).1) mk' q0) → wpX_admit post (ss0, nI made, f_putCount, f_blocks, nI tp, nI np, qc0, a_tokenCount, a_tokenOp, a_tokenValue, a_scriptInUse, st0, a_inputCount, a_inputCoin, a_inputA, a_inputB, a_outputCount, a_outputAmount, a_outputScript, a_feeOf, a_putRow, a_parentOf, a_heightOf, a_chainWork, a_blockState, a_rewardAmount, a_rewardScript, a_blockSize, a_blockTransaction, lb0, S.1, S.2.1, S.2.2, pl, mk0, q0) (nI t) rep := by
    intro post ss0 qc0 st0 mk0 lb0 q0 h
    refine goX post ss0 qc0 st0 mk0 lb0 q0 fun mk' any ss st hu hany => ?_
    rcases hany with ⟨e, q⟩ | ⟨e, hex⟩
    · have h' := h ss st mk'
      rw [pd_rm_none np q] at h'
      exact br_t e h'
    · have hne0 : ¬ ∀ k, k < np → mk k = 0 := fun q => by
        obtain ⟨k, k1, k2⟩ := hex
        rw [q k k1] at k2; exact absurd k2 (by decide)
      obtain ⟨g1, g2⟩ := hgo.resolve_left hne0
      refine br_f (by rw [e]; decide) (xm_hasMarked w ht hnp rfl hp (fun q => ?_) (fun _ => br_t rfl (br_f g1 ⟨pk_in t 40 (by omega), xm_markedFees hm hnp rfl hp ?_⟩)))
      · obtain ⟨j, j1, j2, j3⟩ := q
        rw [hu j j1] at j2
        rcases h01 j j1 with e | e
        · exact (j2 e).elim
        · exact (hL ⟨j, j1, e, j3⟩).elim
      · rw [ect, pd_mf_eq np hu (fun _ _ => rfl)]
        refine br_t g2 (xm_remove hnp rfl ?_)
        have h' := h ss st mk'
        rw [← pd_rm_eq np hu] at h'
        exact h'
  have goY2 : ∀ (post : Int32 → SY → Prop) (cl0 : Int32) (st0 wo0 ch0 ag0 : Nat → Int32), pd_wor (b_length, b_op, b_arg, b_ins, b_inCoin, b_inA, b_inB, b_outs, b_amount, b_lock, b_parent, b_height, b_rewardLock, b_many, b_holds, gfe, grw) S.1 wo0 → ((pd_rm mk pl np).2 = 12 → ∀ st, post (-5) (nI made, g_blocks, g_arrivals, nI tp, nI (pd_rm mk pl np).2, cl0, b_op, b_arg, b_length, b_ins, b_inCoin, b_inA, b_inB, b_outs, b_amount, b_lock, b_parent, b_work, b_rewardLock, b_height, b_many, b_holds, b_delivered, b_arrived, (pd_rm mk pl np).1, ch0, S.1, wo0, S.2.2, S.2.1, st, ag0, b_chosen)) →
      ((pd_rm mk pl np).2 < 12 → ∀ st, post (nI ((pd_rm mk pl np).2 + 1)) (nI made, g_blocks, g_arrivals, nI tp, nI ((pd_rm mk pl np).2 + 1), cl0, b_op, b_arg, b_length, b_ins, b_inCoin, b_inA, b_inB, b_outs, b_amount, b_lock, b_parent, b_work, b_rewardLock, b_height, b_many, b_holds, b_delivered, b_arrived, upd (pd_rm mk pl np).1 (pd_rm mk pl np).2 (nI t), ch0, S.1, wo0, S.2.2, S.2.1, st, ag0, b_chosen)) → wpY_take post (nI made, g_blocks, g_arrivals, nI tp, nI np, cl0, b_op, b_arg, b_length, b_ins, b_inCoin, b_inA, b_inB, b_outs, b_amount, b_lock, b_parent, b_work, b_rewardLock, b_height, b_many, b_holds, b_delivered, b_arrived, pl, ch0, S.1, wo0, S.2.2, S.2.1, st0, ag0, b_chosen) (nI t) rep := by
    intro post cl0 st0 wo0 ch0 ag0 wr h5 h1
    refine goY post cl0 st0 wo0 ch0 ag0 wr fun s st hs => ym_tk54 wE fq ht hnp hp h01 hs (hwt wo0 wr) (hw wo0 wr) (fun q => (hLY q).elim) (fun _ hex q => ?_) (fun _ _ => ym_tk142 hnp h01 hs (fun e => h5 e st) (fun e => h1 e st))
    rw [emf, efe] at q
    exact (hC ⟨hex, q⟩).elim
  by_cases e12 : (pd_rm mk pl np).2 = 12
  · exact ⟨-5, (pd_rm mk pl np).1, (pd_rm mk pl np).2, Prm, fun post ss0 qc0 st0 mk0 lb0 q0 h => goX2 post ss0 qc0 st0 mk0 lb0 q0 fun ss st mk' => X94 post ss st mk' qc0 lb0 q0 (fun _ => h _ _ _) (fun z => by omega), fun post cl0 st0 wo0 ch0 ag0 wr h => goY2 post cl0 st0 wo0 ch0 ag0 wr (fun _ st => h st) (fun z => by omega)⟩
  · refine ⟨nI ((pd_rm mk pl np).2 + 1), upd (pd_rm mk pl np).1 (pd_rm mk pl np).2 (nI t), (pd_rm mk pl np).2 + 1, ?_, fun post ss0 qc0 st0 mk0 lb0 q0 h => goX2 post ss0 qc0 st0 mk0 lb0 q0 fun ss st mk' => X94 post ss st mk' qc0 lb0 q0 (fun z => (e12 z).elim) (fun _ => h _ _ _), fun post cl0 st0 wo0 ch0 ag0 wr h => goY2 post cl0 st0 wo0 ch0 ag0 wr (fun z => (e12 z).elim) (fun _ st => h st)⟩
    obtain ⟨f, f1, f2, f3, f4⟩ := pd_rm_sub mk pl np
    refine pd_pool_app Prm (by omega) ht hth' (fun j hj q => ?_) (fun i hi => ?_)
    · obtain ⟨z1, z2, z3⟩ := f1 j hj
      exact hin ⟨f j, z1, by rw [← z3]; exact q⟩
    · have q := hM.1 i hi
      obtain ⟨c, hc1, _, ecc, _⟩ := pd_wf_co w ht hi
      rw [ecc] at q ⊢
      by_cases hpc : ∃ k, k < np ∧ pl k = nI (c / 3)
      · right
        refine ⟨(hPc c hc1 hpc).1, ?_⟩
        obtain ⟨k, k1, k2⟩ := hpc
        have hk0 : mk k = 0 := by
          rcases h01 k k1 with e | e
          · exact e
          · refine (hL ⟨k, k1, e, i, hi, ?_⟩).elim
            rw [ecc, k2]
            exact ⟨(hPc c hc1 ⟨k, k1, k2⟩).1, (pk_cl (c / 3)).symm⟩
        obtain ⟨j, j1, j2⟩ := f3 k k1 hk0
        exact ⟨j, j1, by rw [(f1 j j1).2.2, j2]; exact k2⟩
      · left
        rw [pd_from_f hpc] at q
        unfold pd_okG at q
        rw [ecc] at q
        exact ⟨q.1, q.2.1⟩
end
end
section
/-! the row of those that come back to the pool -/
def qu_h (a : pd_F) (L : List Int32) : Prop := ∀ j (h : j < L.length), a j = L[j]
theorem qu_0 (a : pd_F) : qu_h a [] := fun j h => by simp at h
theorem qu_s {a : pd_F} {L : List Int32} (x : Int32) (h : qu_h a L) : qu_h (upd a L.length x) (L ++ [x]) := by
  intro j hj
  by_cases e : j = L.length
  · subst e
    rw [pk_us]
    simp
  · rw [List.length_append, List.length_singleton] at hj
    rw [pk_un e, List.getElem_append_left (by omega)]
    exact h j (by omega)
def qu_b (D : pd_D) (b : Nat) : Nat → List Int32
  | 0 => []
  | n + 1 => qu_b D b n ++ [pd_bt D (4 * b + n)]
def qu_c (D : pd_D) (b n : Nat) : Nat → List Int32
  | 0 => []
  | h + 1 => qu_c D b n h ++ qu_b D (pd_anc D b (n - h)) (pd_bs D (pd_anc D b (n - h))).toNatClampNeg
def qu_p (L : List Int32) (pl : pd_F) : Nat → List Int32
  | 0 => L
  | k + 1 => qu_p L pl k ++ [pl k]
theorem qu_b_len (D : pd_D) (b : Nat) : ∀ n, (qu_b D b n).length = n := by
  intro n
  induction n with
  | zero => rfl
  | succ n ih => rw [qu_b, List.length_append, ih]; rfl
theorem qu_p_len (L : List Int32) (pl : pd_F) : ∀ n, (qu_p L pl n).length = L.length + n := by
  intro n
  induction n with
  | zero => rfl
  | succ n ih => rw [qu_p, List.length_append, ih]; rfl
theorem qu_c_mono (D : pd_D) (b n : Nat) : ∀ d h, (qu_c D b n h).length ≤ (qu_c D b n (h + d)).length := by
  intro d
  induction d with
  | zero => intro h; exact Nat.le_refl _
  | succ d ih =>
    intro h
    have := ih h
    rw [show h + (d + 1) = (h + d) + 1 by omega, qu_c, List.length_append]
    omega
def pd_cnt (th : pd_F) : Nat → Nat
  | 0 => 0
  | n + 1 => pd_cnt th n + (if 0 ≤ th n then 1 else 0)
theorem pd_cnt_le (th : pd_F) : ∀ n, pd_cnt th n ≤ n := by
  intro n
  induction n with
  | zero => exact Nat.le_refl _
  | succ n ih => rw [pd_cnt]; split <;> omega
theorem pd_cnt_no {th : pd_F} {t : Nat} {h : Int32} : ∀ n, n ≤ t → pd_cnt (upd th t h) n = pd_cnt th n := by
  intro n
  induction n with
  | zero => intro _; rfl
  | succ n ih => intro hn; rw [pd_cnt, pd_cnt, ih (by omega), pk_un (by omega)]
theorem pd_cnt_upd {th : pd_F} {t : Nat} {h : Int32} (h1 : th t < 0) (h2 : 0 ≤ h) : ∀ n, t < n → pd_cnt (upd th t h) n = pd_cnt th n + 1 := by
  intro n
  induction n with
  | zero => intro z; omega
  | succ n ih =>
    intro hn
    by_cases e : t = n
    · subst e
      rw [pd_cnt, pd_cnt, pd_cnt_no t (Nat.le_refl _), pk_us, if_pos h2, if_neg (Int32.not_le.mpr h1)]
    · rw [pd_cnt, pd_cnt, ih (by omega), pk_un (by omega)]; omega
theorem pd_cnt_0 : ∀ n, n ≤ 40 → pd_cnt pd_S0.2.2 n = 0 := by
  intro n
  induction n with
  | zero => intro _; rfl
  | succ n ih =>
    intro hn
    have e : pd_S0.2.2 n = -1 := if_pos (by omega)
    rw [pd_cnt, ih (by omega), e, if_neg pd_m1]
theorem pd_cnt_txs {D : pd_D} {made blocks b q : Nat} {S : pd_S} (w : pd_wf D made blocks) (hb : b < blocks) (hq : q < 32) : ∀ n, n ≤ (pd_bs D b).toNatClampNeg → pd_okTxs D b (nI q) n S → pd_cnt (pd_txs D b (nI q) n S).2.2 40 = pd_cnt S.2.2 40 + n := by
  intro n
  induction n with
  | zero => intro _ _; rfl
  | succ n ih =>
    intro hn hok
    obtain ⟨t, h1, h2, h3⟩ := pd_bt_of w hb (i := n) (by omega)
    have hm := w.2.2.1
    obtain ⟨o1, o2⟩ := hok
    rw [h3] at o2
    rw [pd_txs, h3]
    show pd_cnt (upd _ _ _) 40 = _
    rw [pd_cnt_upd o2.1 (nI_pos' (by omega)) 40 (by omega), ih (by omega) o1]
    omega
theorem qu_c_cnt {D : pd_D} {made blocks b n : Nat} (w : pd_wf D made blocks) (hb : b < blocks) (he : pd_he D b = nI n) (hn : n < 32) : ∀ h, h ≤ n + 1 → pd_VT D b n h → (qu_c D b n h).length = pd_cnt (pd_T D b n h).2.2 40 := by
  intro h
  induction h with
  | zero => intro _ _; exact (pd_cnt_0 40 (Nat.le_refl _)).symm
  | succ h ih =>
    intro hh hv
    rw [pd_VT_s w hb he hn (by omega)] at hv
    obtain ⟨q1, q2⟩ := pd_anc_of w hb he hn (n - h) (by omega)
    rw [show n - (n - h) = h by omega] at q2
    obtain ⟨v1, v2⟩ := hv
    rw [qu_c, List.length_append, qu_b_len, ih (by omega) v1, ← pd_T_s D b n h (by omega)]
    rw [q2] at v2
    show _ = pd_cnt (pd_txs D (pd_anc D b (n - h)) (pd_he D (pd_anc D b (n - h))) (pd_bs D (pd_anc D b (n - h))).toNatClampNeg (pd_T D b n h)).2.2 40
    rw [q2, pd_cnt_txs w q1 (by omega) _ (Nat.le_refl _) v2]
theorem qu_c_40 {D : pd_D} {made blocks b n : Nat} (w : pd_wf D made blocks) (hb : b < blocks) (he : pd_he D b = nI n) (hn : n < 32) (hv : pd_valid D n b) : (qu_c D b n (n + 1)).length ≤ 40 := by
  rw [qu_c_cnt w hb he hn (n + 1) (Nat.le_refl _) (pd_VT_n.mpr hv)]
  exact pd_cnt_le _ _
/-! what is spent in a valid chain was there -/
def pd_sp (S : pd_S) : Prop := ∀ c, c < 152 → ¬ S.2.1 c = 0 → 0 ≤ S.1 c
theorem pd_sp_tx {D : pd_D} {t q : Nat} {S : pd_S} (hq : q < 32) (s : pd_sp S) (ok : pd_okTx D S t (nI q)) : pd_sp (pd_layTx D t (nI q) S) := by
  intro c hc h
  show 0 ≤ pd_setH _ _ _ _ c
  by_cases z : 3 * t ≤ c ∧ c < 3 * t + (pd_oc D t).toNatClampNeg
  · rw [pd_setH_in z]; exact nI_pos' (by omega)
  · rw [pd_setH_no z]
    have h' : ¬ pd_spend S.2.1 (pd_co D) (3 * t) (pd_ic D t).toNatClampNeg c = 0 := h
    rcases pd_spend_or (f := S.2.1) (co := pd_co D) (base := 3 * t) (c := c) (pd_ic D t).toNatClampNeg with e | ⟨i, hi, e⟩
    · rw [e] at h'; exact s c hc h'
    · have := (ok.2.1 i hi).1
      rw [e] at this; exact this
theorem pd_sp_txs {D : pd_D} {b q : Nat} {S : pd_S} (hq : q < 32) (s : pd_sp S) : ∀ n, pd_okTxs D b (nI q) n S → pd_sp (pd_txs D b (nI q) n S) := by
  intro n
  induction n with
  | zero => intro _; exact s
  | succ n ih => intro hok; exact pd_sp_tx hq (ih hok.1) hok.2
theorem pd_sp_blk {D : pd_D} {b q : Nat} {S : pd_S} (hq : q < 32) (e : pd_he D b = nI q) (s : pd_sp S) (ok : pd_okTxs D b (nI q) (pd_bs D b).toNatClampNeg S) : pd_sp (pd_blk D b S) := by
  intro c hc h
  show 0 ≤ upd _ _ _ c
  rw [e]
  by_cases z : c = 120 + b
  · rw [z, pk_us]; exact nI_pos' (by omega)
  · rw [pk_un z]
    refine pd_sp_txs hq s _ ok c hc ?_
    have h' : ¬ (pd_txs D b (pd_he D b) (pd_bs D b).toNatClampNeg S).2.1 c = 0 := h
    rw [e] at h'; exact h'
theorem pd_sp_lay {D : pd_D} {made blocks : Nat} (w : pd_wf D made blocks) : ∀ n b, b < blocks → pd_he D b = nI n → n < 32 → pd_valid D n b → pd_sp (pd_lay D n b) := by
  intro n
  induction n with
  | zero =>
    intro b hb he hn _
    refine pd_sp_blk hn he (fun c _ h => (h rfl).elim) ?_
    rw [pd_par0 w hb he, w.2.2.2.1]
    exact trivial
  | succ n ih =>
    intro b hb he hn hv
    obtain ⟨p, h1, h2, h3, h4⟩ := pd_par w hb he (by omega)
    rw [pd_valid, h3] at hv
    rw [pd_lay, h3]
    refine pd_sp_blk hn he (ih p (by omega) h4 (by omega) hv.1) ?_
    rw [← he]; exact hv.2
section
variable {f_stackSize f_transactions f_putCount f_blocks f_tip f_poolCount f_queueCount : Int32} {a_tokenCount a_tokenOp a_tokenValue a_scriptInUse a_stack a_inputCount a_inputCoin a_inputA a_inputB a_outputCount a_outputAmount a_outputScript a_feeOf a_putRow a_parentOf a_heightOf a_chainWork a_blockState a_rewardAmount a_rewardScript a_blockSize a_blockTransaction a_laidBlock a_coinHeight a_coinSpent a_transactionHeight a_poolRow a_marked a_queue : Nat → Int32}
theorem xm_queue {made blocks tp n np : Nat} (w : pd_wf (a_tokenCount, a_tokenOp, a_tokenValue, a_inputCount, a_inputCoin, a_inputA, a_inputB, a_outputCount, a_outputAmount, a_outputScript, a_parentOf, a_heightOf, a_rewardScript, a_blockSize, a_blockTransaction, a_feeOf, a_rewardAmount) made blocks) (htp : tp < blocks) (eh : a_heightOf tp = nI n) (hn : n < 32) (hnp : np ≤ 12) (hl : ∀ h, h ≤ n → a_laidBlock h = nI (pd_anc (a_tokenCount, a_tokenOp, a_tokenValue, a_inputCount, a_inputCoin, a_inputA, a_inputB, a_outputCount, a_outputAmount, a_outputScript, a_parentOf, a_heightOf, a_rewardScript, a_blockSize, a_blockTransaction, a_feeOf, a_rewardAmount) tp (n - h))) (h40 : (qu_c (a_tokenCount, a_tokenOp, a_tokenValue, a_inputCount, a_inputCoin, a_inputA, a_inputB, a_outputCount, a_outputAmount, a_outputScript, a_parentOf, a_heightOf, a_rewardScript, a_blockSize, a_blockTransaction, a_feeOf, a_rewardAmount) tp n (n + 1)).length ≤ 40) {post : SX → Prop}
    (H : ∀ q, qu_h q (qu_p (qu_c (a_tokenCount, a_tokenOp, a_tokenValue, a_inputCount, a_inputCoin, a_inputA, a_inputB, a_outputCount, a_outputAmount, a_outputScript, a_parentOf, a_heightOf, a_rewardScript, a_blockSize, a_blockTransaction, a_feeOf, a_rewardAmount) tp n (n + 1)) a_poolRow np) → post (f_stackSize, f_transactions, f_putCount, f_blocks, nI tp, nI np, nI ((qu_c (a_tokenCount, a_tokenOp, a_tokenValue, a_inputCount, a_inputCoin, a_inputA, a_inputB, a_outputCount, a_outputAmount, a_outputScript, a_parentOf, a_heightOf, a_rewardScript, a_blockSize, a_blockTransaction, a_feeOf, a_rewardAmount) tp n (n + 1)).length + np), a_tokenCount, a_tokenOp, a_tokenValue, a_scriptInUse, a_stack, a_inputCount, a_inputCoin, a_inputA, a_inputB, a_outputCount, a_outputAmount, a_outputScript, a_feeOf, a_putRow, a_parentOf, a_heightOf, a_chainWork, a_blockState, a_rewardAmount, a_rewardScript, a_blockSize, a_blockTransaction, a_laidBlock, a_coinHeight, a_coinSpent, a_transactionHeight, a_poolRow, a_marked, q)) :
    wpX_queueForPool post (f_stackSize, f_transactions, f_putCount, f_blocks, nI tp, nI np, f_queueCount, a_tokenCount, a_tokenOp, a_tokenValue, a_scriptInUse, a_stack, a_inputCount, a_inputCoin, a_inputA, a_inputB, a_outputCount, a_outputAmount, a_outputScript, a_feeOf, a_putRow, a_parentOf, a_heightOf, a_chainWork, a_blockState, a_rewardAmount, a_rewardScript, a_blockSize, a_blockTransaction, a_laidBlock, a_coinHeight, a_coinSpent, a_transactionHeight, a_poolRow, a_marked, a_queue) := by
  have hbk := w.2.1
  have ehc : a_heightOf (nI tp).toNatClampNeg = nI n := by rw [pk_cl tp]; exact eh
  have L82 : ∀ (d k fuel : Nat) (q : Nat → Int32), k + d = np → d < fuel → qu_h q (qu_p (qu_c (a_tokenCount, a_tokenOp, a_tokenValue, a_inputCount, a_inputCoin, a_inputA, a_inputB, a_outputCount, a_outputAmount, a_outputScript, a_parentOf, a_heightOf, a_rewardScript, a_blockSize, a_blockTransaction, a_feeOf, a_rewardAmount) tp n (n + 1)) a_poolRow k) → wX_queueForPool_82 post f_stackSize f_transactions f_putCount f_blocks (nI tp) (nI np) fuel (nI k) (nI ((qu_c (a_tokenCount, a_tokenOp, a_tokenValue, a_inputCount, a_inputCoin, a_inputA, a_inputB, a_outputCount, a_outputAmount, a_outputScript, a_parentOf, a_heightOf, a_rewardScript, a_blockSize, a_blockTransaction, a_feeOf, a_rewardAmount) tp n (n + 1)).length + k)) a_tokenCount a_tokenOp a_tokenValue a_scriptInUse a_stack a_inputCount a_inputCoin a_inputA a_inputB a_outputCount a_outputAmount a_outputScript a_feeOf a_putRow a_parentOf a_heightOf a_chainWork a_blockState a_rewardAmount a_rewardScript a_blockSize a_blockTransaction a_laidBlock a_coinHeight a_coinSpent a_transactionHeight a_poolRow a_marked q := by
    intro d
    induction d with
    | zero =>
      intro k fuel q hk hf hq
      obtain ⟨fuel, rfl⟩ : ∃ q, fuel = q + 1 := ⟨fuel - 1, by omega⟩
      obtain rfl : k = np := by omega
      exact br_t (nI_le (Nat.le_refl _) (by omega)) (H q hq)
    | succ d ih =>
      intro k fuel q hk hf hq
      obtain ⟨fuel, rfl⟩ : ∃ q, fuel = q + 1 := ⟨fuel - 1, by omega⟩
      have hq' := qu_s (a_poolRow k) hq
      rw [qu_p_len] at hq'
      refine pk_le np k (fun z => by omega) (fun z => ⟨pk_in k 12 (by omega), pk_in ((qu_c (a_tokenCount, a_tokenOp, a_tokenValue, a_inputCount, a_inputCoin, a_inputA, a_inputB, a_outputCount, a_outputAmount, a_outputScript, a_parentOf, a_heightOf, a_rewardScript, a_blockSize, a_blockTransaction, a_feeOf, a_rewardAmount) tp n (n + 1)).length + k) 52 (by omega), nm_r (by rw [pk_cl (x := nI ((qu_c (a_tokenCount, a_tokenOp, a_tokenValue, a_inputCount, a_inputCoin, a_inputA, a_inputB, a_outputCount, a_outputAmount, a_outputScript, a_parentOf, a_heightOf, a_rewardScript, a_blockSize, a_blockTransaction, a_feeOf, a_rewardAmount) tp n (n + 1)).length + k)) ((qu_c (a_tokenCount, a_tokenOp, a_tokenValue, a_inputCount, a_inputCoin, a_inputA, a_inputB, a_outputCount, a_outputAmount, a_outputScript, a_parentOf, a_heightOf, a_rewardScript, a_blockSize, a_blockTransaction, a_feeOf, a_rewardAmount) tp n (n + 1)).length + k), pk_cl k]) (nm_r (nI_1 _) (nm_r (nI_1 k) (ih (k + 1) fuel _ (by omega) (by omega) hq')))⟩)
  have L29 : ∀ (J : Int32 → Int32 → (Nat → Int32) → (Nat → Int32) → (Nat → Int32) → (Nat → Int32) → (Nat → Int32) → (Nat → Int32) → (Nat → Int32) → (Nat → Int32) → (Nat → Int32) → (Nat → Int32) → (Nat → Int32) → (Nat → Int32) → (Nat → Int32) → (Nat → Int32) → (Nat → Int32) → (Nat → Int32) → (Nat → Int32) → (Nat → Int32) → (Nat → Int32) → (Nat → Int32) → (Nat → Int32) → (Nat → Int32) → (Nat → Int32) → (Nat → Int32) → (Nat → Int32) → (Nat → Int32) → (Nat → Int32) → (Nat → Int32) → (Nat → Int32) → Prop) (h x m : Nat), x < blocks → a_blockSize x = nI m → m ≤ 4 → (qu_c (a_tokenCount, a_tokenOp, a_tokenValue, a_inputCount, a_inputCoin, a_inputA, a_inputB, a_outputCount, a_outputAmount, a_outputScript, a_parentOf, a_heightOf, a_rewardScript, a_blockSize, a_blockTransaction, a_feeOf, a_rewardAmount) tp n h).length + m ≤ 40 → (∀ q, qu_h q (qu_c (a_tokenCount, a_tokenOp, a_tokenValue, a_inputCount, a_inputCoin, a_inputA, a_inputB, a_outputCount, a_outputAmount, a_outputScript, a_parentOf, a_heightOf, a_rewardScript, a_blockSize, a_blockTransaction, a_feeOf, a_rewardAmount) tp n h ++ qu_b (a_tokenCount, a_tokenOp, a_tokenValue, a_inputCount, a_inputCoin, a_inputA, a_inputB, a_outputCount, a_outputAmount, a_outputScript, a_parentOf, a_heightOf, a_rewardScript, a_blockSize, a_blockTransaction, a_feeOf, a_rewardAmount) x m) → J (nI (h + 1)) (nI ((qu_c (a_tokenCount, a_tokenOp, a_tokenValue, a_inputCount, a_inputCoin, a_inputA, a_inputB, a_outputCount, a_outputAmount, a_outputScript, a_parentOf, a_heightOf, a_rewardScript, a_blockSize, a_blockTransaction, a_feeOf, a_rewardAmount) tp n h).length + m)) a_tokenCount a_tokenOp a_tokenValue a_scriptInUse a_stack a_inputCount a_inputCoin a_inputA a_inputB a_outputCount a_outputAmount a_outputScript a_feeOf a_putRow a_parentOf a_heightOf a_chainWork a_blockState a_rewardAmount a_rewardScript a_blockSize a_blockTransaction a_laidBlock a_coinHeight a_coinSpent a_transactionHeight a_poolRow a_marked q) →
      ∀ (d i fuel : Nat) (q : Nat → Int32), i + d = m → d < fuel → qu_h q (qu_c (a_tokenCount, a_tokenOp, a_tokenValue, a_inputCount, a_inputCoin, a_inputA, a_inputB, a_outputCount, a_outputAmount, a_outputScript, a_parentOf, a_heightOf, a_rewardScript, a_blockSize, a_blockTransaction, a_feeOf, a_rewardAmount) tp n h ++ qu_b (a_tokenCount, a_tokenOp, a_tokenValue, a_inputCount, a_inputCoin, a_inputA, a_inputB, a_outputCount, a_outputAmount, a_outputScript, a_parentOf, a_heightOf, a_rewardScript, a_blockSize, a_blockTransaction, a_feeOf, a_rewardAmount) x i) → wX_queueForPool_29 post J (nI h) (nI x) f_stackSize f_transactions f_putCount f_blocks (nI tp) (nI np) fuel (nI i) (nI ((qu_c (a_tokenCount, a_tokenOp, a_tokenValue, a_inputCount, a_inputCoin, a_inputA, a_inputB, a_outputCount, a_outputAmount, a_outputScript, a_parentOf, a_heightOf, a_rewardScript, a_blockSize, a_blockTransaction, a_feeOf, a_rewardAmount) tp n h).length + i)) a_tokenCount a_tokenOp a_tokenValue a_scriptInUse a_stack a_inputCount a_inputCoin a_inputA a_inputB a_outputCount a_outputAmount a_outputScript a_feeOf a_putRow a_parentOf a_heightOf a_chainWork a_blockState a_rewardAmount a_rewardScript a_blockSize a_blockTransaction a_laidBlock a_coinHeight a_coinSpent a_transactionHeight a_poolRow a_marked q := by
    intro J h x m hx em hm4 hlen HJ d
    have emc : a_blockSize (nI x).toNatClampNeg = nI m := by rw [pk_cl x]; exact em
    induction d with
    | zero =>
      intro i fuel q hi hf hq
      obtain ⟨fuel, rfl⟩ : ∃ q, fuel = q + 1 := ⟨fuel - 1, by omega⟩
      obtain rfl : i = m := by omega
      exact ⟨pk_in x 32 (by omega), br_t (by rw [emc]; exact nI_le (Nat.le_refl _) (by omega)) (nm_r (nI_1 h) (HJ q hq))⟩
    | succ d ih =>
      intro i fuel q hi hf hq
      obtain ⟨fuel, rfl⟩ : ∃ q, fuel = q + 1 := ⟨fuel - 1, by omega⟩
      have hq' := qu_s (a_blockTransaction (4 * x + i)) hq
      rw [List.length_append, qu_b_len, List.append_assoc] at hq'
      refine ⟨pk_in x 32 (by omega), pk_le m i (fun z => by omega) (fun z => ⟨pk_in (4 * x + i) 128 (by omega) (xb_4 x i), pk_in ((qu_c (a_tokenCount, a_tokenOp, a_tokenValue, a_inputCount, a_inputCoin, a_inputA, a_inputB, a_outputCount, a_outputAmount, a_outputScript, a_parentOf, a_heightOf, a_rewardScript, a_blockSize, a_blockTransaction, a_feeOf, a_rewardAmount) tp n h).length + i) 52 (by omega), nm_r (by rw [pk_cl (x := nI ((qu_c (a_tokenCount, a_tokenOp, a_tokenValue, a_inputCount, a_inputCoin, a_inputA, a_inputB, a_outputCount, a_outputAmount, a_outputScript, a_parentOf, a_heightOf, a_rewardScript, a_blockSize, a_blockTransaction, a_feeOf, a_rewardAmount) tp n h).length + i)) ((qu_c (a_tokenCount, a_tokenOp, a_tokenValue, a_inputCount, a_inputCoin, a_inputA, a_inputB, a_outputCount, a_outputAmount, a_outputScript, a_parentOf, a_heightOf, a_rewardScript, a_blockSize, a_blockTransaction, a_feeOf, a_rewardAmount) tp n h).length + i), pk_cl (4 * x + i) (xb_4 x i)]) (nm_r (nI_1 _) (nm_r (nI_1 i) (ih (i + 1) fuel _ (by omega) (by omega) hq')))⟩) emc⟩
  have L7 : ∀ (d h fuel : Nat) (q : Nat → Int32), h + d = n + 1 → d < fuel → qu_h q (qu_c (a_tokenCount, a_tokenOp, a_tokenValue, a_inputCount, a_inputCoin, a_inputA, a_inputB, a_outputCount, a_outputAmount, a_outputScript, a_parentOf, a_heightOf, a_rewardScript, a_blockSize, a_blockTransaction, a_feeOf, a_rewardAmount) tp n h) → wX_queueForPool_7 post f_stackSize f_transactions f_putCount f_blocks (nI tp) (nI np) fuel (nI h) (nI (qu_c (a_tokenCount, a_tokenOp, a_tokenValue, a_inputCount, a_inputCoin, a_inputA, a_inputB, a_outputCount, a_outputAmount, a_outputScript, a_parentOf, a_heightOf, a_rewardScript, a_blockSize, a_blockTransaction, a_feeOf, a_rewardAmount) tp n h).length) a_tokenCount a_tokenOp a_tokenValue a_scriptInUse a_stack a_inputCount a_inputCoin a_inputA a_inputB a_outputCount a_outputAmount a_outputScript a_feeOf a_putRow a_parentOf a_heightOf a_chainWork a_blockState a_rewardAmount a_rewardScript a_blockSize a_blockTransaction a_laidBlock a_coinHeight a_coinSpent a_transactionHeight a_poolRow a_marked q := by
    intro d
    induction d with
    | zero =>
      intro h fuel q hd hf hq
      obtain ⟨fuel, rfl⟩ : ∃ q, fuel = q + 1 := ⟨fuel - 1, by omega⟩
      obtain rfl : h = n + 1 := by omega
      exact ⟨pk_in tp 32 (by omega), br_t (by rw [ehc]; exact nI_lt (by omega) (by omega)) ⟨np + 1, L82 np 0 (np + 1) q (by omega) (by omega) hq⟩⟩
    | succ d ih =>
      intro h fuel q hd hf hq
      obtain ⟨fuel, rfl⟩ : ∃ q, fuel = q + 1 := ⟨fuel - 1, by omega⟩
      obtain ⟨q1, q2⟩ := pd_anc_of w htp eh hn (n - h) (by omega)
      obtain ⟨_, _, ⟨m, hm, em, _⟩, _⟩ := w.2.2.2.2.2 _ q1
      have emc : (pd_bs (a_tokenCount, a_tokenOp, a_tokenValue, a_inputCount, a_inputCoin, a_inputA, a_inputB, a_outputCount, a_outputAmount, a_outputScript, a_parentOf, a_heightOf, a_rewardScript, a_blockSize, a_blockTransaction, a_feeOf, a_rewardAmount) (pd_anc (a_tokenCount, a_tokenOp, a_tokenValue, a_inputCount, a_inputCoin, a_inputA, a_inputB, a_outputCount, a_outputAmount, a_outputScript, a_parentOf, a_heightOf, a_rewardScript, a_blockSize, a_blockTransaction, a_feeOf, a_rewardAmount) tp (n - h))).toNatClampNeg = m := pd_cl em (by omega)
      have hnx := ih (h + 1) fuel
      rw [qu_c, emc, List.length_append, qu_b_len] at hnx
      have hmono := qu_c_mono (a_tokenCount, a_tokenOp, a_tokenValue, a_inputCount, a_inputCoin, a_inputA, a_inputB, a_outputCount, a_outputAmount, a_outputScript, a_parentOf, a_heightOf, a_rewardScript, a_blockSize, a_blockTransaction, a_feeOf, a_rewardAmount) tp n (n + 1 - (h + 1)) (h + 1)
      rw [show h + 1 + (n + 1 - (h + 1)) = n + 1 by omega] at hmono
      have hlen : (qu_c (a_tokenCount, a_tokenOp, a_tokenValue, a_inputCount, a_inputCoin, a_inputA, a_inputB, a_outputCount, a_outputAmount, a_outputScript, a_parentOf, a_heightOf, a_rewardScript, a_blockSize, a_blockTransaction, a_feeOf, a_rewardAmount) tp n h).length + m ≤ 40 := by
        have e : (qu_c (a_tokenCount, a_tokenOp, a_tokenValue, a_inputCount, a_inputCoin, a_inputA, a_inputB, a_outputCount, a_outputAmount, a_outputScript, a_parentOf, a_heightOf, a_rewardScript, a_blockSize, a_blockTransaction, a_feeOf, a_rewardAmount) tp n (h + 1)).length = (qu_c (a_tokenCount, a_tokenOp, a_tokenValue, a_inputCount, a_inputCoin, a_inputA, a_inputB, a_outputCount, a_outputAmount, a_outputScript, a_parentOf, a_heightOf, a_rewardScript, a_blockSize, a_blockTransaction, a_feeOf, a_rewardAmount) tp n h).length + m := by rw [qu_c, emc, List.length_append, qu_b_len]
        omega
      refine ⟨pk_in tp 32 (by omega), pk_lt n h (fun z => by omega) (fun z => ⟨pk_in h 32 (by omega), nm_r ((congrArg a_laidBlock (pk_cl h)).trans (hl h (by omega))) ⟨m + 1, L29 _ h _ m q1 em hm hlen (fun q' hq' => hnx q' (by omega) (by omega) hq') m 0 (m + 1) q (by omega) (by omega) ?_⟩⟩) ehc⟩
      rw [qu_b, List.append_nil]; exact hq
  exact ⟨n + 2, L7 (n + 1) 0 (n + 2) _ (by omega) (by omega) (qu_0 _)⟩
end
end
section
/-! Y: the row of those that come back -/
section
variable {g_made g_blocks g_arrivals g_tip g_pooled g_chainLength : Int32} {b_op b_arg b_length b_ins b_inCoin b_inA b_inB b_outs b_amount b_lock b_parent b_work b_rewardLock b_height b_many b_holds b_delivered b_arrived b_pool b_chain b_from b_worth b_within b_spent b_stack b_again b_chosen gfe grw : Nat → Int32}
theorem ym_queue {made blocks tp n np : Nat} {x1 : Int32} (w : pd_wf (b_length, b_op, b_arg, b_ins, b_inCoin, b_inA, b_inB, b_outs, b_amount, b_lock, b_parent, b_height, b_rewardLock, b_many, b_holds, gfe, grw) made blocks) (htp : tp < blocks) (eh : b_height tp = nI n) (hn : n < 32) (hnp : np ≤ 12) (hl : ∀ h, h ≤ n → b_chain h = nI (pd_anc (b_length, b_op, b_arg, b_ins, b_inCoin, b_inA, b_inB, b_outs, b_amount, b_lock, b_parent, b_height, b_rewardLock, b_many, b_holds, gfe, grw) tp (n - h))) (h40 : (qu_c (b_length, b_op, b_arg, b_ins, b_inCoin, b_inA, b_inB, b_outs, b_amount, b_lock, b_parent, b_height, b_rewardLock, b_many, b_holds, gfe, grw) tp n (n + 1)).length ≤ 40) {post : SY → Prop}
    (H : ∀ q, qu_h q (qu_p (qu_c (b_length, b_op, b_arg, b_ins, b_inCoin, b_inA, b_inB, b_outs, b_amount, b_lock, b_parent, b_height, b_rewardLock, b_many, b_holds, gfe, grw) tp n (n + 1)) b_pool np) → wpY_walk (fun _ u => match u with | (g_madeq, g_blocksq, g_arrivalsq, g_tipq, g_pooledq, g_chainLengthq, b_opq, b_argq, b_lengthq, b_insq, b_inCoinq, b_inAq, b_inBq, b_outsq, b_amountq, b_lockq, b_parentq, b_workq, b_rewardLockq, b_heightq, b_manyq, b_holdsq, b_deliveredq, b_arrivedq, b_poolq, b_chainq, b_fromq, b_worthq, b_withinq, b_spentq, b_stackq, b_againq, b_chosenq) => (∃ n220 : Nat, wY_findTip_220 post (nI ((qu_c (b_length, b_op, b_arg, b_ins, b_inCoin, b_inA, b_inB, b_outs, b_amount, b_lock, b_parent, b_height, b_rewardLock, b_many, b_holds, gfe, grw) tp n (n + 1)).length + np)) n220 0 g_madeq g_blocksq g_arrivalsq g_tipq g_pooledq g_chainLengthq b_opq b_argq b_lengthq b_insq b_inCoinq b_inAq b_inBq b_outsq b_amountq b_lockq b_parentq b_workq b_rewardLockq b_heightq b_manyq b_holdsq b_deliveredq b_arrivedq b_poolq b_chainq b_fromq b_worthq b_withinq b_spentq b_stackq b_againq b_chosenq)) (g_made, g_blocks, g_arrivals, x1, 0, nI (n + 1), b_op, b_arg, b_length, b_ins, b_inCoin, b_inA, b_inB, b_outs, b_amount, b_lock, b_parent, b_work, b_rewardLock, b_height, b_many, b_holds, b_delivered, b_arrived, b_pool, b_chain, b_from, b_worth, b_within, b_spent, b_stack, q, b_chosen) x1) :
    ∃ fuel, wY_findTip_97 post x1 g_made g_blocks g_arrivals g_tip (nI np) (nI (n + 1)) fuel 0 0 b_op b_arg b_length b_ins b_inCoin b_inA b_inB b_outs b_amount b_lock b_parent b_work b_rewardLock b_height b_many b_holds b_delivered b_arrived b_pool b_chain b_from b_worth b_within b_spent b_stack b_again b_chosen := by
  have hbk := w.2.1
  have L170 : ∀ (d k fuel : Nat) (q : Nat → Int32), k + d = np → d < fuel → qu_h q (qu_p (qu_c (b_length, b_op, b_arg, b_ins, b_inCoin, b_inA, b_inB, b_outs, b_amount, b_lock, b_parent, b_height, b_rewardLock, b_many, b_holds, gfe, grw) tp n (n + 1)) b_pool k) → wY_findTip_170 post x1 g_made g_blocks g_arrivals g_tip (nI np) (nI (n + 1)) fuel (nI ((qu_c (b_length, b_op, b_arg, b_ins, b_inCoin, b_inA, b_inB, b_outs, b_amount, b_lock, b_parent, b_height, b_rewardLock, b_many, b_holds, gfe, grw) tp n (n + 1)).length + k)) (nI k) b_op b_arg b_length b_ins b_inCoin b_inA b_inB b_outs b_amount b_lock b_parent b_work b_rewardLock b_height b_many b_holds b_delivered b_arrived b_pool b_chain b_from b_worth b_within b_spent b_stack q b_chosen := by
    intro d
    induction d with
    | zero =>
      intro k fuel q hk hf hq
      obtain ⟨fuel, rfl⟩ : ∃ q, fuel = q + 1 := ⟨fuel - 1, by omega⟩
      obtain rfl : k = np := by omega
      exact br_t (nI_le (Nat.le_refl _) (by omega)) (H q hq)
    | succ d ih =>
      intro k fuel q hk hf hq
      obtain ⟨fuel, rfl⟩ : ∃ q, fuel = q + 1 := ⟨fuel - 1, by omega⟩
      have hq' := qu_s (b_pool k) hq
      rw [qu_p_len] at hq'
      refine pk_le np k (fun z => by omega) (fun z => ⟨pk_in k 12 (by omega), pk_in ((qu_c (b_length, b_op, b_arg, b_ins, b_inCoin, b_inA, b_inB, b_outs, b_amount, b_lock, b_parent, b_height, b_rewardLock, b_many, b_holds, gfe, grw) tp n (n + 1)).length + k) 200 (by omega), nm_r (by rw [pk_cl (x := nI ((qu_c (b_length, b_op, b_arg, b_ins, b_inCoin, b_inA, b_inB, b_outs, b_amount, b_lock, b_parent, b_height, b_rewardLock, b_many, b_holds, gfe, grw) tp n (n + 1)).length + k)) ((qu_c (b_length, b_op, b_arg, b_ins, b_inCoin, b_inA, b_inB, b_outs, b_amount, b_lock, b_parent, b_height, b_rewardLock, b_many, b_holds, gfe, grw) tp n (n + 1)).length + k), pk_cl k]) (nm_r (nI_1 _) (nm_r (nI_1 k) (ih (k + 1) fuel _ (by omega) (by omega) hq')))⟩)
  have L115 : ∀ (J : Int32 → Int32 → (Nat → Int32) → (Nat → Int32) → (Nat → Int32) → (Nat → Int32) → (Nat → Int32) → (Nat → Int32) → (Nat → Int32) → (Nat → Int32) → (Nat → Int32) → (Nat → Int32) → (Nat → Int32) → (Nat → Int32) → (Nat → Int32) → (Nat → Int32) → (Nat → Int32) → (Nat → Int32) → (Nat → Int32) → (Nat → Int32) → (Nat → Int32) → (Nat → Int32) → (Nat → Int32) → (Nat → Int32) → (Nat → Int32) → (Nat → Int32) → (Nat → Int32) → (Nat → Int32) → (Nat → Int32) → Prop) (h x m : Nat), h < 32 → b_chain h = nI x → x < blocks → b_many x = nI m → m ≤ 4 → (qu_c (b_length, b_op, b_arg, b_ins, b_inCoin, b_inA, b_inB, b_outs, b_amount, b_lock, b_parent, b_height, b_rewardLock, b_many, b_holds, gfe, grw) tp n h).length + m ≤ 40 → (∀ q, qu_h q (qu_c (b_length, b_op, b_arg, b_ins, b_inCoin, b_inA, b_inB, b_outs, b_amount, b_lock, b_parent, b_height, b_rewardLock, b_many, b_holds, gfe, grw) tp n h ++ qu_b (b_length, b_op, b_arg, b_ins, b_inCoin, b_inA, b_inB, b_outs, b_amount, b_lock, b_parent, b_height, b_rewardLock, b_many, b_holds, gfe, grw) x m) → J (nI ((qu_c (b_length, b_op, b_arg, b_ins, b_inCoin, b_inA, b_inB, b_outs, b_amount, b_lock, b_parent, b_height, b_rewardLock, b_many, b_holds, gfe, grw) tp n h).length + m)) (nI (h + 1)) b_op b_arg b_length b_ins b_inCoin b_inA b_inB b_outs b_amount b_lock b_parent b_work b_rewardLock b_height b_many b_holds b_delivered b_arrived b_pool b_chain b_from b_worth b_within b_spent b_stack q b_chosen) →
      ∀ (d i fuel : Nat) (q : Nat → Int32), i + d = m → d < fuel → qu_h q (qu_c (b_length, b_op, b_arg, b_ins, b_inCoin, b_inA, b_inB, b_outs, b_amount, b_lock, b_parent, b_height, b_rewardLock, b_many, b_holds, gfe, grw) tp n h ++ qu_b (b_length, b_op, b_arg, b_ins, b_inCoin, b_inA, b_inB, b_outs, b_amount, b_lock, b_parent, b_height, b_rewardLock, b_many, b_holds, gfe, grw) x i) → wY_findTip_115 post J x1 (nI h) g_made g_blocks g_arrivals g_tip (nI np) (nI (n + 1)) fuel (nI ((qu_c (b_length, b_op, b_arg, b_ins, b_inCoin, b_inA, b_inB, b_outs, b_amount, b_lock, b_parent, b_height, b_rewardLock, b_many, b_holds, gfe, grw) tp n h).length + i)) (nI (4 * x + i)) b_op b_arg b_length b_ins b_inCoin b_inA b_inB b_outs b_amount b_lock b_parent b_work b_rewardLock b_height b_many b_holds b_delivered b_arrived b_pool b_chain b_from b_worth b_within b_spent b_stack q b_chosen := by
    intro J h x m hh ech hx em hm4 hlen HJ d
    have ecc : b_chain (nI h).toNatClampNeg = nI x := by rw [pk_cl h]; exact ech
    have e4 : 4 * b_chain (nI h).toNatClampNeg + b_many (b_chain (nI h).toNatClampNeg).toNatClampNeg = nI (4 * x + m) := by rw [ecc, pk_cl x, em]; exact yb_4 x m
    have inn : vp_in (b_chain (nI h).toNatClampNeg) 33 := pk_in x 33 (by omega) ecc
    induction d with
    | zero =>
      intro i fuel q hi hf hq
      obtain ⟨fuel, rfl⟩ : ∃ q, fuel = q + 1 := ⟨fuel - 1, by omega⟩
      obtain rfl : i = m := by omega
      exact ⟨pk_in h 32 hh, pk_in h 32 hh, inn, br_t (by rw [e4]; exact nI_le (Nat.le_refl _) (by omega)) (nm_r (nI_1 h) (HJ q hq))⟩
    | succ d ih =>
      intro i fuel q hi hf hq
      obtain ⟨fuel, rfl⟩ : ∃ q, fuel = q + 1 := ⟨fuel - 1, by omega⟩
      have hq' := qu_s (b_holds (4 * x + i)) hq
      rw [List.length_append, qu_b_len, List.append_assoc] at hq'
      refine ⟨pk_in h 32 hh, pk_in h 32 hh, inn, pk_le (4 * x + m) (4 * x + i) (fun z => by omega) (fun z => ⟨pk_in (4 * x + i) 132 (by omega), pk_in ((qu_c (b_length, b_op, b_arg, b_ins, b_inCoin, b_inA, b_inB, b_outs, b_amount, b_lock, b_parent, b_height, b_rewardLock, b_many, b_holds, gfe, grw) tp n h).length + i) 200 (by omega), nm_r (by rw [pk_cl (x := nI ((qu_c (b_length, b_op, b_arg, b_ins, b_inCoin, b_inA, b_inB, b_outs, b_amount, b_lock, b_parent, b_height, b_rewardLock, b_many, b_holds, gfe, grw) tp n h).length + i)) ((qu_c (b_length, b_op, b_arg, b_ins, b_inCoin, b_inA, b_inB, b_outs, b_amount, b_lock, b_parent, b_height, b_rewardLock, b_many, b_holds, gfe, grw) tp n h).length + i), pk_cl (x := nI (4 * x + i)) (4 * x + i)]) (nm_r (nI_1 _) (nm_r (nI_1 (4 * x + i)) (ih (i + 1) fuel _ (by omega) (by omega) hq')))⟩) e4⟩
  have L97 : ∀ (d h fuel : Nat) (q : Nat → Int32), h + d = n + 1 → d < fuel → qu_h q (qu_c (b_length, b_op, b_arg, b_ins, b_inCoin, b_inA, b_inB, b_outs, b_amount, b_lock, b_parent, b_height, b_rewardLock, b_many, b_holds, gfe, grw) tp n h) → wY_findTip_97 post x1 g_made g_blocks g_arrivals g_tip (nI np) (nI (n + 1)) fuel (nI (qu_c (b_length, b_op, b_arg, b_ins, b_inCoin, b_inA, b_inB, b_outs, b_amount, b_lock, b_parent, b_height, b_rewardLock, b_many, b_holds, gfe, grw) tp n h).length) (nI h) b_op b_arg b_length b_ins b_inCoin b_inA b_inB b_outs b_amount b_lock b_parent b_work b_rewardLock b_height b_many b_holds b_delivered b_arrived b_pool b_chain b_from b_worth b_within b_spent b_stack q b_chosen := by
    intro d
    induction d with
    | zero =>
      intro h fuel q hd hf hq
      obtain ⟨fuel, rfl⟩ : ∃ q, fuel = q + 1 := ⟨fuel - 1, by omega⟩
      obtain rfl : h = n + 1 := by omega
      exact br_t (nI_le (Nat.le_refl _) (by omega)) ⟨np + 1, L170 np 0 (np + 1) q (by omega) (by omega) hq⟩
    | succ d ih =>
      intro h fuel q hd hf hq
      obtain ⟨fuel, rfl⟩ : ∃ q, fuel = q + 1 := ⟨fuel - 1, by omega⟩
      obtain ⟨q1, q2⟩ := pd_anc_of w htp eh hn (n - h) (by omega)
      obtain ⟨_, _, ⟨m, hm, em, _⟩, _⟩ := w.2.2.2.2.2 _ q1
      have emc : (pd_bs (b_length, b_op, b_arg, b_ins, b_inCoin, b_inA, b_inB, b_outs, b_amount, b_lock, b_parent, b_height, b_rewardLock, b_many, b_holds, gfe, grw) (pd_anc (b_length, b_op, b_arg, b_ins, b_inCoin, b_inA, b_inB, b_outs, b_amount, b_lock, b_parent, b_height, b_rewardLock, b_many, b_holds, gfe, grw) tp (n - h))).toNatClampNeg = m := pd_cl em (by omega)
      have hnx := ih (h + 1) fuel
      rw [qu_c, emc, List.length_append, qu_b_len] at hnx
      have hmono := qu_c_mono (b_length, b_op, b_arg, b_ins, b_inCoin, b_inA, b_inB, b_outs, b_amount, b_lock, b_parent, b_height, b_rewardLock, b_many, b_holds, gfe, grw) tp n (n + 1 - (h + 1)) (h + 1)
      rw [show h + 1 + (n + 1 - (h + 1)) = n + 1 by omega] at hmono
      have hlen : (qu_c (b_length, b_op, b_arg, b_ins, b_inCoin, b_inA, b_inB, b_outs, b_amount, b_lock, b_parent, b_height, b_rewardLock, b_many, b_holds, gfe, grw) tp n h).length + m ≤ 40 := by
        have e : (qu_c (b_length, b_op, b_arg, b_ins, b_inCoin, b_inA, b_inB, b_outs, b_amount, b_lock, b_parent, b_height, b_rewardLock, b_many, b_holds, gfe, grw) tp n (h + 1)).length = (qu_c (b_length, b_op, b_arg, b_ins, b_inCoin, b_inA, b_inB, b_outs, b_amount, b_lock, b_parent, b_height, b_rewardLock, b_many, b_holds, gfe, grw) tp n h).length + m := by rw [qu_c, emc, List.length_append, qu_b_len]
        omega
      have hch := hl h (by omega)
      refine pk_le (n + 1) h (fun z => by omega) (fun z => ⟨pk_in h 32 (by omega), nm_r (e' := nI (4 * pd_anc (b_length, b_op, b_arg, b_ins, b_inCoin, b_inA, b_inB, b_outs, b_amount, b_lock, b_parent, b_height, b_rewardLock, b_many, b_holds, gfe, grw) tp (n - h) + 0)) ?_ ⟨m + 1, L115 _ h _ m (by omega) hch q1 em hm hlen (fun q' hq' => hnx q' (by omega) (by omega) hq') m 0 (m + 1) q (by omega) (by omega) ?_⟩⟩)
      · rw [pk_cl h, hch]; exact yb_40 _
      · rw [qu_b, List.append_nil]; exact hq
  exact ⟨n + 2, L97 (n + 1) 0 (n + 2) _ (by omega) (by omega) (qu_0 _)⟩
end
/-! agreement of the rows -/
theorem qu_b_ag {D E : pd_D} {b : Nat} (a : pd_agB D E b) : ∀ n, n ≤ (pd_bs D b).toNatClampNeg → qu_b E b n = qu_b D b n := by
  intro n
  induction n with
  | zero => intro _; rfl
  | succ n ih => intro hn; rw [qu_b, qu_b, ih (by omega), a.2.2.2.2.2 n (by omega)]
theorem qu_c_ag {D E : pd_D} {made blocks b n : Nat} (w : pd_wf D made blocks) (a : pd_ag D E made blocks) (hb : b < blocks) (he : pd_he D b = nI n) (hn : n < 32) : ∀ h, h ≤ n + 1 → qu_c E b n h = qu_c D b n h := by
  intro h
  induction h with
  | zero => intro _; rfl
  | succ h ih =>
    intro hh
    obtain ⟨e, q1, q2⟩ := pd_ag_anc w a hb he hn (n - h) (by omega)
    rw [qu_c, qu_c, ih (by omega), e, (a.2.1 _ q1).2.2.1, qu_b_ag (a.2.1 _ q1) _ (Nat.le_refl _)]
/-! the row's entries are transactions -/
theorem qu_c_tx {D : pd_D} {made blocks b n : Nat} (w : pd_wf D made blocks) (hb : b < blocks) (he : pd_he D b = nI n) (hn : n < 32) : ∀ h, h ≤ n + 1 → ∀ x, x ∈ qu_c D b n h → ∃ t, t < made ∧ x = nI t := by
  have hbq : ∀ b', b' < blocks → ∀ m, m ≤ (pd_bs D b').toNatClampNeg → ∀ x, x ∈ qu_b D b' m → ∃ t, t < made ∧ x = nI t := by
    intro b' hb' m
    induction m with
    | zero => intro _ x hx; simp [qu_b] at hx
    | succ m ih =>
      intro hm x hx
      rw [qu_b, List.mem_append, List.mem_singleton] at hx
      rcases hx with hx | hx
      · exact ih (by omega) x hx
      · obtain ⟨t, h1, h2, _⟩ := pd_bt_of w hb' (i := m) (by omega)
        exact ⟨t, h1, hx.trans h2⟩
  intro h
  induction h with
  | zero => intro _ x hx; simp [qu_c] at hx
  | succ h ih =>
    intro hh x hx
    rw [qu_c, List.mem_append] at hx
    rcases hx with hx | hx
    · exact ih (by omega) x hx
    · exact hbq _ (pd_anc_of w hb he hn (n - h) (by omega)).1 _ (Nat.le_refl _) x hx
/-! wf, fees and rewards under agreement -/
theorem pd_ag_coin {D E : pd_D} {made blocks t c : Nat} (a : pd_ag D E made blocks) (ht : t ≤ made) : pd_coin E t blocks c ↔ pd_coin D t blocks c := by
  unfold pd_coin
  refine or_congr (and_congr_right fun _ => and_congr_right fun h2 => ?_) Iff.rfl
  rw [(a.1 _ (Nat.lt_of_lt_of_le h2 ht)).2.1]
theorem pd_wf_ag {D E : pd_D} {made blocks : Nat} (w : pd_wf D made blocks) (a : pd_ag D E made blocks) : pd_wf E made blocks := by
  obtain ⟨w1, w2, w3, w4, wT, wB⟩ := w
  refine ⟨w1, w2, w3, by rw [(a.2.1 0 (by omega)).2.2.1]; exact w4, fun t ht => ?_, fun b hb => ?_⟩
  · obtain ⟨n, m, n1, hn, m1, hm3, en, em, hc, hd, ho⟩ := wT t ht
    obtain ⟨e1, e2, _, e4, e5⟩ := a.1 t ht
    rw [pd_cl en (by omega)] at e4
    rw [pd_cl em (by omega)] at e5
    refine ⟨n, m, n1, hn, m1, hm3, e1.trans en, e2.trans em, fun i hi => ?_, fun i j hi hj q => ?_, fun o hq => ?_⟩
    · obtain ⟨c, c1, c2, c3⟩ := hc i hi
      exact ⟨c, c1, (e4 i hi).1.trans c2, (pd_ag_coin a (Nat.le_of_lt ht)).mpr c3⟩
    · rw [(e4 i hi).1, (e4 j hj).1] at q
      exact hd i j hi hj q
    · obtain ⟨s, s1, s2⟩ := ho o hq
      exact ⟨s, s1, (e5 o hq).2.trans s2⟩
  · obtain ⟨⟨h, h1, h2⟩, ⟨s, s1, s2⟩, ⟨n, n1, n2, n3⟩, hp⟩ := wB b hb
    obtain ⟨e1, e2, e3, _, e5, e6⟩ := a.2.1 b hb
    rw [pd_cl n2 (by omega)] at e6
    refine ⟨⟨h, h1, e1.trans h2⟩, ⟨s, s1, e2.trans s2⟩, ⟨n, n1, e3.trans n2, fun i hi => ?_⟩, fun hb0 => ?_⟩
    · obtain ⟨t, t1, t2⟩ := n3 i hi
      exact ⟨t, t1, (e6 i hi).trans t2⟩
    · obtain ⟨p, p1, p2, p3⟩ := hp hb0
      exact ⟨p, p1, (e5 hb0).trans p2, by rw [e1, (a.2.1 p (by omega)).1]; exact p3⟩
theorem pd_ag_amt {D E : pd_D} {made blocks c : Nat} (a : pd_ag D E made blocks) (h : pd_coin D made blocks c) : pd_amt E c = pd_amt D c := by
  unfold pd_amt
  rcases h with ⟨h1, h2, h3⟩ | ⟨h1, h2⟩
  · rw [if_pos h1, if_pos h1]
    have := ((a.1 _ h2).2.2.2.2 _ h3).1
    rw [show 3 * (c / 3) + c % 3 = c by omega] at this
    exact this
  · rw [if_neg (by omega), if_neg (by omega)]
    exact (a.2.1 _ h2).2.2.2.1
theorem pd_sin_eq {f f' co co' : pd_F} {base : Nat} : ∀ n, (∀ i, i < n → co' (base + i) = co (base + i) ∧ f' (co (base + i)).toNatClampNeg = f (co (base + i)).toNatClampNeg) → pd_sin f' co' base n = pd_sin f co base n := by
  intro n
  induction n with
  | zero => intro _; rfl
  | succ n ih =>
    intro h
    obtain ⟨h1, h2⟩ := h n (by omega)
    rw [pd_sin, pd_sin, h1, h2, ih fun i hi => h i (by omega)]
theorem pd_sout_eq {x : Int32} {oa oa' : pd_F} {base : Nat} : ∀ n, (∀ i, i < n → oa' (base + i) = oa (base + i)) → pd_sout x oa' base n = pd_sout x oa base n := by
  intro n
  induction n with
  | zero => intro _; rfl
  | succ n ih => intro h; rw [pd_sout, pd_sout, h n (by omega), ih fun i hi => h i (by omega)]
theorem pd_srw_eq {x : Int32} {fe fe' bt bt' : pd_F} {base : Nat} : ∀ n, (∀ i, i < n → bt' (base + i) = bt (base + i) ∧ fe' (bt (base + i)).toNatClampNeg = fe (bt (base + i)).toNatClampNeg) → pd_srw x fe' bt' base n = pd_srw x fe bt base n := by
  intro n
  induction n with
  | zero => intro _; rfl
  | succ n ih =>
    intro h
    obtain ⟨h1, h2⟩ := h n (by omega)
    rw [pd_srw, pd_srw, h1, h2, ih fun i hi => h i (by omega)]
theorem pd_feq_ag {D E : pd_D} {made blocks : Nat} (w : pd_wf D made blocks) (a : pd_ag D E made blocks) (fq : pd_feq D made) : pd_feq E made := by
  intro t ht
  obtain ⟨e1, e2, e3, e4, e5⟩ := a.1 t ht
  rw [e1, e2, e3, fq t ht, pd_sout_eq _ fun o ho => (e5 o ho).1]
  have hs : pd_sin (pd_amt E) (pd_co E) (3 * t) (pd_ic D t).toNatClampNeg = pd_sin (pd_amt D) (pd_co D) (3 * t) (pd_ic D t).toNatClampNeg := pd_sin_eq _ fun i hi => by
    obtain ⟨c, _, _, ec, hc⟩ := pd_wf_co w ht hi
    rw [ec]
    exact ⟨(e4 i hi).1, pd_ag_amt a (pd_coin_mono (Nat.le_of_lt ht) hc)⟩
  rw [hs]
theorem pd_req_ag {D E : pd_D} {made blocks : Nat} (w : pd_wf D made blocks) (a : pd_ag D E made blocks) (rq : pd_req D blocks) : pd_req E blocks := by
  intro b hb
  obtain ⟨e1, e2, e3, e4, e5, e6⟩ := a.2.1 b hb
  rw [e4, e1, e3, rq b hb]
  refine (pd_srw_eq _ fun i hi => ?_).symm
  obtain ⟨t, ht, _, et⟩ := pd_bt_of w hb hi
  rw [et]
  exact ⟨e6 i hi, (a.1 t ht).2.2.1⟩
end
section
/-! Y: the work of a chain, and the search for the tip -/
def pd_va (D : pd_D) (b : Nat) : Prop := pd_valid D (pd_he D b).toNatClampNeg b
def cn_wrk (D : pd_D) (wk cw : pd_F) (blocks : Nat) : Prop := wk 0 = cw 0 ∧ (∀ b, b < blocks → ∃ c, c ≤ 9 * b + 1 ∧ cw b = nI c) ∧ (∀ b, 0 < b → b < blocks → cw b = cw (pd_pa D b).toNatClampNeg + wk b)
section
variable {g_made g_blocks g_arrivals g_tip g_pooled g_chainLength : Int32} {b_op b_arg b_length b_ins b_inCoin b_inA b_inB b_outs b_amount b_lock b_parent b_work b_rewardLock b_height b_many b_holds b_delivered b_arrived b_pool b_chain b_from b_worth b_within b_spent b_stack b_again b_chosen gfe grw : Nat → Int32}
theorem ym_workOf {made blocks : Nat} (w : pd_wf (b_length, b_op, b_arg, b_ins, b_inCoin, b_inA, b_inB, b_outs, b_amount, b_lock, b_parent, b_height, b_rewardLock, b_many, b_holds, gfe, grw) made blocks) (cw : Nat → Int32) (hw : cn_wrk (b_length, b_op, b_arg, b_ins, b_inCoin, b_inA, b_inB, b_outs, b_amount, b_lock, b_parent, b_height, b_rewardLock, b_many, b_holds, gfe, grw) b_work cw blocks) (hp0 : b_parent 0 = -1) {post : Int32 → Prop} : ∀ b, b < blocks → post (cw b) → wpY_workOf post (g_made, g_blocks, g_arrivals, g_tip, g_pooled, g_chainLength, b_op, b_arg, b_length, b_ins, b_inCoin, b_inA, b_inB, b_outs, b_amount, b_lock, b_parent, b_work, b_rewardLock, b_height, b_many, b_holds, b_delivered, b_arrived, b_pool, b_chain, b_from, b_worth, b_within, b_spent, b_stack, b_again, b_chosen) (nI b) := by
  have hbk := w.2.1
  have key : ∀ (n b fuel : Nat) (acc : Int32), b < blocks → b_height b = nI n → n < 32 → n + 1 < fuel → post (acc + cw b) → wY_workOf_4 post g_made g_blocks g_arrivals g_tip g_pooled g_chainLength b_op b_arg b_length b_ins b_inCoin b_inA b_inB b_outs b_amount b_lock b_parent b_work b_rewardLock b_height b_many b_holds b_delivered b_arrived b_pool b_chain b_from b_worth b_within b_spent b_stack b_again b_chosen fuel acc (nI b) := by
    intro n
    induction n with
    | zero =>
      intro b fuel acc hb he hn hf hpost
      obtain ⟨fuel, rfl⟩ : ∃ q, fuel = q + 2 := ⟨fuel - 2, by omega⟩
      obtain rfl := pd_par0 w hb he
      rw [← hw.1] at hpost
      refine br_f (nI_pos (by omega)) ⟨pk_in 0 33 (by omega), nm_e ⟨pk_in 0 33 (by omega), nm_r (e' := -1) ?_ (br_t (by decide) ?_)⟩⟩
      · rw [pk_cl 0]; exact hp0
      · rw [pk_cl 0]; exact hpost
    | succ n ih =>
      intro b fuel acc hb he hn hf hpost
      obtain ⟨fuel, rfl⟩ : ∃ q, fuel = q + 1 := ⟨fuel - 1, by omega⟩
      obtain ⟨p, q1, q2, q3, q4⟩ := pd_par w hb he (by omega)
      have q2' : b_parent b = nI p := q2
      have hcw := hw.2.2 b (by omega) hb
      rw [q3] at hcw
      refine br_f (nI_pos (by omega)) ⟨pk_in b 33 (by omega), nm_e ⟨pk_in b 33 (by omega), nm_r (e' := nI p) ?_ (ih p fuel _ (by omega) q4 (by omega) (by omega) ?_)⟩⟩
      · rw [pk_cl b]; exact q2'
      · rw [pk_cl b]
        rw [hcw] at hpost
        rw [show acc + b_work b + cw p = acc + (cw p + b_work b) by rw [Int32.add_assoc, Int32.add_comm (b_work b)]]
        exact hpost
  intro b hb hpost
  obtain ⟨n, _, hn, he⟩ := pd_he_of w hb
  exact ⟨n + 2, key n b (n + 2) 0 hb he hn (by omega) (by rw [Int32.zero_add]; exact hpost)⟩
theorem ym_find {made blocks T : Nat} (w : pd_wf (b_length, b_op, b_arg, b_ins, b_inCoin, b_inA, b_inB, b_outs, b_amount, b_lock, b_parent, b_height, b_rewardLock, b_many, b_holds, gfe, grw) made blocks) (tk : fx_tok b_length b_op b_arg) (fq : pd_feq (b_length, b_op, b_arg, b_ins, b_inCoin, b_inA, b_inB, b_outs, b_amount, b_lock, b_parent, b_height, b_rewardLock, b_many, b_holds, gfe, grw) made) (rq : pd_req (b_length, b_op, b_arg, b_ins, b_inCoin, b_inA, b_inB, b_outs, b_amount, b_lock, b_parent, b_height, b_rewardLock, b_many, b_holds, gfe, grw) blocks) (cw : Nat → Int32) (hw : cn_wrk (b_length, b_op, b_arg, b_ins, b_inCoin, b_inA, b_inB, b_outs, b_amount, b_lock, b_parent, b_height, b_rewardLock, b_many, b_holds, gfe, grw) b_work cw blocks) (hp0 : b_parent 0 = -1) (eb : g_blocks = nI blocks)
    (hT : T < blocks) (aT : 0 ≤ b_arrived T) (vT : pd_va (b_length, b_op, b_arg, b_ins, b_inCoin, b_inA, b_inB, b_outs, b_amount, b_lock, b_parent, b_height, b_rewardLock, b_many, b_holds, gfe, grw) T) (a0 : 0 ≤ b_arrived 0) (har : ∀ b, b < blocks → 0 ≤ b_arrived b → ∃ a, a < 64 ∧ b_arrived b = nI a)
    (best : ∀ b, b < blocks → b ≠ T → 0 ≤ b_arrived b → pd_va (b_length, b_op, b_arg, b_ins, b_inCoin, b_inA, b_inB, b_outs, b_amount, b_lock, b_parent, b_height, b_rewardLock, b_many, b_holds, gfe, grw) b → cw b < cw T ∨ (cw b = cw T ∧ b_arrived T < b_arrived b)) (S : pd_S) (hS : pd_out S) {post : SY → Prop}
    (H : ∀ (S' : pd_S) (wo ch st : Nat → Int32) (cl : Int32), pd_out S' → ((nI T = g_tip → post (g_made, g_blocks, g_arrivals, g_tip, g_pooled, cl, b_op, b_arg, b_length, b_ins, b_inCoin, b_inA, b_inB, b_outs, b_amount, b_lock, b_parent, b_work, b_rewardLock, b_height, b_many, b_holds, b_delivered, b_arrived, b_pool, ch, (S').1, wo, (S').2.2, (S').2.1, st, b_again, b_chosen)) ∧ (¬ nI T = g_tip → wpY_walk (fun _ u => match u with | (g_madeq, g_blocksq, g_arrivalsq, g_tipq, g_pooledq, g_chainLengthq, b_opq, b_argq, b_lengthq, b_insq, b_inCoinq, b_inAq, b_inBq, b_outsq, b_amountq, b_lockq, b_parentq, b_workq, b_rewardLockq, b_heightq, b_manyq, b_holdsq, b_deliveredq, b_arrivedq, b_poolq, b_chainq, b_fromq, b_worthq, b_withinq, b_spentq, b_stackq, b_againq, b_chosenq) => (∃ n97 : Nat, wY_findTip_97 post (nI T) g_madeq g_blocksq g_arrivalsq g_tipq g_pooledq g_chainLengthq n97 0 0 b_opq b_argq b_lengthq b_insq b_inCoinq b_inAq b_inBq b_outsq b_amountq b_lockq b_parentq b_workq b_rewardLockq b_heightq b_manyq b_holdsq b_deliveredq b_arrivedq b_poolq b_chainq b_fromq b_worthq b_withinq b_spentq b_stackq b_againq b_chosenq)) (g_made, g_blocks, g_arrivals, g_tip, g_pooled, cl, b_op, b_arg, b_length, b_ins, b_inCoin, b_inA, b_inB, b_outs, b_amount, b_lock, b_parent, b_work, b_rewardLock, b_height, b_many, b_holds, b_delivered, b_arrived, b_pool, ch, (S').1, wo, (S').2.2, (S').2.1, st, b_again, b_chosen) g_tip))) :
    wpY_findTip post (g_made, g_blocks, g_arrivals, g_tip, g_pooled, g_chainLength, b_op, b_arg, b_length, b_ins, b_inCoin, b_inA, b_inB, b_outs, b_amount, b_lock, b_parent, b_work, b_rewardLock, b_height, b_many, b_holds, b_delivered, b_arrived, b_pool, b_chain, S.1, b_worth, S.2.2, S.2.1, b_stack, b_again, b_chosen) := by
  have hbk := w.2.1
  subst eb
  have key : ∀ (d x fuel bst : Nat) (S' : pd_S) (wo ch st : Nat → Int32) (cl : Int32), x + d = blocks → d < fuel → pd_out S' → bst < blocks → 0 ≤ b_arrived bst → pd_va (b_length, b_op, b_arg, b_ins, b_inCoin, b_inA, b_inB, b_outs, b_amount, b_lock, b_parent, b_height, b_rewardLock, b_many, b_holds, gfe, grw) bst → (T < x → bst = T) → wY_findTip_4 post fuel (nI bst) (nI x) g_made (nI blocks) g_arrivals g_tip g_pooled cl b_op b_arg b_length b_ins b_inCoin b_inA b_inB b_outs b_amount b_lock b_parent b_work b_rewardLock b_height b_many b_holds b_delivered b_arrived b_pool ch ((S').1) wo ((S').2.2) ((S').2.1) st b_again b_chosen := by
    intro d
    induction d with
    | zero =>
      intro x fuel bst S' wo ch st cl hx hf ho hb ab vb hbT
      obtain ⟨fuel, rfl⟩ : ∃ q, fuel = q + 1 := ⟨fuel - 1, by omega⟩
      obtain rfl : bst = T := hbT (by omega)
      exact br_t (nI_le (by omega) (by omega)) (H S' wo ch st cl ho)
    | succ d ih =>
      intro x fuel bst S' wo ch st cl hx hf ho hb ab vb hbT
      obtain ⟨fuel, rfl⟩ : ∃ q, fuel = q + 1 := ⟨fuel - 1, by omega⟩
      obtain ⟨n, _, hn, he⟩ := pd_he_of w (b := x) (by omega)
      have he' : b_height x = nI n := he
      have hec : (pd_he (b_length, b_op, b_arg, b_ins, b_inCoin, b_inA, b_inB, b_outs, b_amount, b_lock, b_parent, b_height, b_rewardLock, b_many, b_holds, gfe, grw) x).toNatClampNeg = n := pd_cl he (by omega)
      refine pk_le blocks x (fun z => by omega) (fun z => ⟨pk_in x 32 (by omega), ?_⟩)
      rw [pk_cl x]
      refine br_c (fun z1 => nm_r (nI_1 x) (ih (x + 1) fuel bst S' wo ch st cl (by omega) (by omega) ho hb ab vb fun h => hbT ?_)) (fun z1 => ?_)
      · rcases Nat.lt_or_ge T x with h' | h'
        · exact h'
        · obtain rfl : T = x := by omega
          exact absurd aT (Int32.not_le.mpr z1)
      · have ax : 0 ≤ b_arrived x := Int32.not_lt.mp z1
        refine ym_walk w tk fq rq (by omega) he' hn S' ho (fun hv wo' st' ch' _ _ => ?_) (fun hv S2 wo' st' ch' ho2 => br_t rfl (nm_r (nI_1 x) (ih (x + 1) fuel bst S2 wo' ch' st' _ (by omega) (by omega) ho2 hb ab vb fun h => hbT ?_)))
        · have vx : pd_va (b_length, b_op, b_arg, b_ins, b_inCoin, b_inA, b_inB, b_outs, b_amount, b_lock, b_parent, b_height, b_rewardLock, b_many, b_holds, gfe, grw) x := by unfold pd_va; rw [hec]; exact hv
          have hout : pd_out (pd_lay (b_length, b_op, b_arg, b_ins, b_inCoin, b_inA, b_inB, b_outs, b_amount, b_lock, b_parent, b_height, b_rewardLock, b_many, b_holds, gfe, grw) n x) := pd_inv_out (pd_inv_lay w n x (by omega) he hn)
          refine br_f (by decide) (ym_workOf w cw hw hp0 x (by omega) (ym_workOf w cw hw hp0 bst hb ?_))
          obtain ⟨cx, hcx, ecx⟩ := hw.2.1 x (by omega)
          obtain ⟨cb, hcb, ecb⟩ := hw.2.1 bst hb
          obtain ⟨cT, hcT, ecT⟩ := hw.2.1 T hT
          obtain ⟨av, hav, eav⟩ := har x (by omega) ax
          obtain ⟨ab', hab, eab⟩ := har bst hb ab
          obtain ⟨aT', haT, eaT⟩ := har T hT aT
          have bestb := fun h : bst ≠ T => best bst hb h ab vb
          have bestx := fun h : x ≠ T => best x (by omega) h ax vx
          rw [ecb, ecT, eaT, eab, nI_ltI (by omega) (by omega), nI_eq (by omega) (by omega), nI_ltI (by omega) (by omega)] at bestb
          rw [ecx, ecT, eaT, eav, nI_ltI (by omega) (by omega), nI_eq (by omega) (by omega), nI_ltI (by omega) (by omega)] at bestx
          have keep : (T < x + 1 → bst = T) → wY_findTip_4 post fuel (nI bst) (nI (x + 1)) g_made (nI blocks) g_arrivals g_tip g_pooled (nI (n + 1)) b_op b_arg b_length b_ins b_inCoin b_inA b_inB b_outs b_amount b_lock b_parent b_work b_rewardLock b_height b_many b_holds b_delivered b_arrived b_pool ch' ((pd_lay (b_length, b_op, b_arg, b_ins, b_inCoin, b_inA, b_inB, b_outs, b_amount, b_lock, b_parent, b_height, b_rewardLock, b_many, b_holds, gfe, grw) n x).1) wo' ((pd_lay (b_length, b_op, b_arg, b_ins, b_inCoin, b_inA, b_inB, b_outs, b_amount, b_lock, b_parent, b_height, b_rewardLock, b_many, b_holds, gfe, grw) n x).2.2) ((pd_lay (b_length, b_op, b_arg, b_ins, b_inCoin, b_inA, b_inB, b_outs, b_amount, b_lock, b_parent, b_height, b_rewardLock, b_many, b_holds, gfe, grw) n x).2.1) st' b_again b_chosen := fun h => ih (x + 1) fuel bst _ wo' ch' st' _ (by omega) (by omega) hout hb ab vb h
          have take : (T < x + 1 → x = T) → wY_findTip_4 post fuel (nI x) (nI (x + 1)) g_made (nI blocks) g_arrivals g_tip g_pooled (nI (n + 1)) b_op b_arg b_length b_ins b_inCoin b_inA b_inB b_outs b_amount b_lock b_parent b_work b_rewardLock b_height b_many b_holds b_delivered b_arrived b_pool ch' ((pd_lay (b_length, b_op, b_arg, b_ins, b_inCoin, b_inA, b_inB, b_outs, b_amount, b_lock, b_parent, b_height, b_rewardLock, b_many, b_holds, gfe, grw) n x).1) wo' ((pd_lay (b_length, b_op, b_arg, b_ins, b_inCoin, b_inA, b_inB, b_outs, b_amount, b_lock, b_parent, b_height, b_rewardLock, b_many, b_holds, gfe, grw) n x).2.2) ((pd_lay (b_length, b_op, b_arg, b_ins, b_inCoin, b_inA, b_inB, b_outs, b_amount, b_lock, b_parent, b_height, b_rewardLock, b_many, b_holds, gfe, grw) n x).2.1) st' b_again b_chosen := fun h => ih (x + 1) fuel x _ wo' ch' st' _ (by omega) (by omega) hout (by omega) ax vx h
          have ed : (cw x - cw bst).toInt = (cx : Int) - cb := by rw [ecx, ecb]; exact pk_sub_toInt (by omega) (by omega)
          refine nm_e (br_c (fun z2 => nm_r (nI_1 x) (take fun h => ?_)) (fun z2 => br_c (fun z3 => ⟨pk_in x 32 (by omega), pk_in bst 32 (by omega), ?_⟩) (fun z3 => nm_r (nI_1 x) (keep fun h => ?_))))
          · rw [Int32.lt_iff_toInt_lt, ed, show (0 : Int32).toInt = 0 from by decide] at z2
            rcases Classical.em (x = T) with e | e
            · exact e
            · have hb' := hbT (by omega)
              subst hb'
              rw [ecT, nI_eq (by omega) (by omega)] at ecb
              have := bestx e
              omega
          · have z3' : (cw x - cw bst).toInt = 0 := by rw [z3]; decide
            rw [ed] at z3'
            rw [pk_cl (x := nI bst) bst, eav, eab]
            refine pk_le ab' av (fun z4 => nm_r (nI_1 x) (keep fun h => ?_)) (fun z4 => nm_r (nI_1 x) (take fun h => ?_))
            · rcases Classical.em (bst = T) with e | e
              · exact e
              · have hxT : x = T := by
                  rcases Nat.lt_or_ge T x with h' | h'
                  · exact (e (hbT h')).elim
                  · omega
                subst hxT
                rw [ecT, nI_eq (by omega) (by omega)] at ecx
                rw [eaT, nI_eq (by omega) (by omega)] at eav
                have := bestb e
                omega
            · rcases Classical.em (x = T) with e | e
              · exact e
              · have hb' := hbT (by omega)
                subst hb'
                rw [ecT, nI_eq (by omega) (by omega)] at ecb
                rw [eaT, nI_eq (by omega) (by omega)] at eab
                have := bestx e
                omega
          · rcases Classical.em (bst = T) with e | e
            · exact e
            · have hxT : x = T := by
                rcases Nat.lt_or_ge T x with h' | h'
                · exact (e (hbT h')).elim
                · omega
              subst hxT
              rw [ecT, nI_eq (by omega) (by omega)] at ecx
              have hbb := bestb e
              rw [Int32.lt_iff_toInt_lt, ed, show (0 : Int32).toInt = 0 from by decide] at z2
              have hne : ¬ ((cx : Int) - cb = 0) := fun q => z3 (Int32.toInt_inj.mp (by rw [ed, q]; decide))
              omega
        · rcases Nat.lt_or_ge T x with h' | h'
          · exact h'
          · obtain rfl : T = x := by omega
            unfold pd_va at vT
            rw [hec] at vT
            exact (hv vT).elim
  obtain ⟨n0, hn0, _, he0⟩ := pd_he_of w (b := 0) (by omega)
  have v0 : pd_va (b_length, b_op, b_arg, b_ins, b_inCoin, b_inA, b_inB, b_outs, b_amount, b_lock, b_parent, b_height, b_rewardLock, b_many, b_holds, gfe, grw) 0 := by
    unfold pd_va
    rw [pd_cl he0 (by omega), show n0 = 0 by omega]
    exact trivial
  exact ⟨blocks + 1, key blocks 0 (blocks + 1) 0 S _ _ _ _ (by omega) (by omega) hS (by omega) a0 v0 (fun h => by omega)⟩
end
end
section
/-! a block arrives -/
def cn_one (D : pd_D) (st dl av : pd_F) (ar b : Nat) : Prop := (dl b = 0 ∧ av b = -1 ∧ st b = 0) ∨ (dl b = 1 ∧ av b = -1 ∧ st b = 1)
    ∨ (dl b = 1 ∧ (∃ a, a < ar ∧ av b = nI a) ∧ (0 < b → 0 ≤ av (pd_pa D b).toNatClampNeg) ∧ ((st b = 3 ∧ pd_va D b) ∨ (st b = 2 ∧ ¬ pd_va D b)))
/-- the blocks' states on both sides; block x is left out -/
def cn_blk (D : pd_D) (st dl av cw wk : pd_F) (blocks ar tp x : Nat) : Prop :=
  (∀ b, b < blocks → b ≠ x → cn_one D st dl av ar b)
    ∧ (∀ b c, b < blocks → c < blocks → 0 ≤ av b → av b = av c → b = c)
    ∧ ar = pd_cnt av 32
    ∧ (∀ b, blocks ≤ b → b < 32 → dl b = 0 ∧ av b = -1 ∧ st b = 0)
    ∧ cn_wrk D wk cw blocks
    ∧ (tp < blocks ∧ tp ≠ x ∧ 0 ≤ av tp ∧ pd_va D tp)
    ∧ (∀ b, b < blocks → b ≠ tp → 0 ≤ av b → pd_va D b → cw b < cw tp ∨ (cw b = cw tp ∧ av tp < av b))
    ∧ 0 ≤ av 0
theorem cn_av {D : pd_D} {st dl av cw wk : pd_F} {blocks ar tp x : Nat} (hb32 : blocks ≤ 32) (h : cn_blk D st dl av cw wk blocks ar tp x) {b : Nat} (hb : b < blocks) (hx : b ≠ x) (h0 : 0 ≤ av b) : ∃ a, a < ar ∧ av b = nI a := by
  rcases h.1 b hb hx with ⟨_, e, _⟩ | ⟨_, e, _⟩ | ⟨_, e, _⟩
  · rw [e] at h0; exact (pd_m1 h0).elim
  · rw [e] at h0; exact (pd_m1 h0).elim
  · exact e
/-- what becomes of the states when block x arrives -/
theorem cn_arr {D : pd_D} {st dl av cw wk : pd_F} {made blocks ar tp x : Nat} {z : Int32} (w : pd_wf D made blocks) (h : cn_blk D st dl av cw wk blocks ar tp x) (hx : x < blocks) (hx0 : 0 < x) (edl : dl x = 1) (eav : av x = -1) (hpa : 0 ≤ av (pd_pa D x).toNatClampNeg)
    (hz : (z = 3 ∧ pd_va D x) ∨ (z = 2 ∧ ¬ pd_va D x)) {T : Nat} (hT : (T = x ∧ pd_va D x ∧ cw tp < cw x) ∨ (T = tp ∧ ¬ (pd_va D x ∧ cw tp < cw x))) :
    cn_blk D (upd st x z) dl (upd av x (nI ar)) cw wk blocks (ar + 1) T 99 := by
  have hb32 := w.2.1
  obtain ⟨h1, h2, h3, h4, h5, ⟨t1, t2, t3, t4⟩, h7, h8⟩ := h
  have har : ar ≤ 32 := by rw [h3]; exact pd_cnt_le _ _
  have h' : cn_blk D st dl av cw wk blocks ar tp x := ⟨h1, h2, h3, h4, h5, ⟨t1, t2, t3, t4⟩, h7, h8⟩
  have h0up : ∀ c, 0 ≤ av c → 0 ≤ upd av x (nI ar) c := fun c hc => by
    by_cases e : c = x
    · rw [e, pk_us]; exact nI_pos' (by omega)
    · rw [pk_un e]; exact hc
  obtain ⟨a, ha, ea⟩ := cn_av hb32 h' t1 t2 t3
  obtain ⟨cx, hcx, ecx⟩ := h5.2.1 x hx
  obtain ⟨ct, hct, ect⟩ := h5.2.1 tp t1
  refine ⟨fun b hb _ => ?_, fun b c hb hc b0 e => ?_, ?_, fun b hb1 hb2 => ?_, h5, ?_, fun b hb hbT b0 vb => ?_, h0up 0 h8⟩
  · by_cases e : b = x
    · subst e
      refine Or.inr (Or.inr ⟨edl, ⟨ar, by omega, pk_us⟩, fun _ => h0up _ hpa, ?_⟩)
      rw [pk_us]; exact hz
    · unfold cn_one
      rw [pk_un e, pk_un e]
      rcases h1 b hb e with q | q | ⟨q1, ⟨a', q2, q3⟩, q4, q5⟩
      · exact Or.inl q
      · exact Or.inr (Or.inl q)
      · exact Or.inr (Or.inr ⟨q1, ⟨a', by omega, q3⟩, fun hb0 => h0up _ (q4 hb0), q5⟩)
  · by_cases e1 : b = x
    · by_cases e2 : c = x
      · omega
      · subst e1
        rw [pk_us, pk_un e2] at e
        have c0 : 0 ≤ av c := by rw [← e]; exact nI_pos' (by omega)
        obtain ⟨a', q1, q2⟩ := cn_av hb32 h' hc e2 c0
        rw [q2, nI_eq (by omega) (by omega)] at e
        omega
    · by_cases e2 : c = x
      · subst e2
        rw [pk_us, pk_un e1] at e
        have c0 : 0 ≤ av b := by rw [e]; exact nI_pos' (by omega)
        obtain ⟨a', q1, q2⟩ := cn_av hb32 h' hb e1 c0
        rw [q2, nI_eq (by omega) (by omega)] at e
        omega
      · rw [pk_un e1] at b0 e
        rw [pk_un e2] at e
        exact h2 b c hb hc b0 e
  · rw [pd_cnt_upd (by rw [eav]; decide) (nI_pos' (by omega)) 32 (by omega), h3]
  · rw [pk_un (by omega), pk_un (by omega)]
    exact h4 b hb1 hb2
  · rcases hT with ⟨rfl, v, _⟩ | ⟨rfl, _⟩
    · exact ⟨hx, by omega, by rw [pk_us]; exact nI_pos' (by omega), v⟩
    · exact ⟨t1, by omega, h0up _ t3, t4⟩
  · rcases hT with ⟨rfl, v, hlt⟩ | ⟨rfl, hno⟩
    · left
      rw [pk_un hbT] at b0
      by_cases e : b = tp
      · rw [e]; exact hlt
      · rw [ect, ecx, nI_ltI (by omega) (by omega)] at hlt
        obtain ⟨cb, hcb, ecb⟩ := h5.2.1 b hb
        have q := h7 b hb e b0 vb
        rw [ecb, ect, nI_ltI (by omega) (by omega), nI_eq (by omega) (by omega)] at q
        rw [ecb, ecx, nI_ltI (by omega) (by omega)]
        omega
    · by_cases e : b = x
      · subst e
        have hnlt : ¬ cw T < cw b := fun q => hno ⟨vb, q⟩
        rw [pk_us, pk_un (by omega), ea]
        rw [ect, ecx, nI_ltI (by omega) (by omega)] at hnlt
        rw [ecx, ect, nI_ltI (by omega) (by omega), nI_eq (by omega) (by omega), nI_ltI (by omega) (by omega)]
        omega
      · rw [pk_un e] at b0
        rw [pk_un e, pk_un t2]
        exact h7 b hb hbT b0 vb
section
variable {f_stackSize f_transactions f_putCount f_blocks f_tip f_poolCount f_queueCount : Int32} {a_tokenCount a_tokenOp a_tokenValue a_scriptInUse a_stack a_inputCount a_inputCoin a_inputA a_inputB a_outputCount a_outputAmount a_outputScript a_feeOf a_putRow a_parentOf a_heightOf a_chainWork a_blockState a_rewardAmount a_rewardScript a_blockSize a_blockTransaction a_laidBlock a_coinHeight a_coinSpent a_transactionHeight a_poolRow a_marked a_queue : Nat → Int32}
variable {g_made g_blocks g_arrivals g_tip g_pooled g_chainLength : Int32} {b_op b_arg b_length b_ins b_inCoin b_inA b_inB b_outs b_amount b_lock b_parent b_work b_rewardLock b_height b_many b_holds b_delivered b_arrived b_pool b_chain b_from b_worth b_within b_spent b_stack b_again b_chosen gfe grw : Nat → Int32}
theorem ad_loop {made blocks tp n : Nat} {S : pd_S} {L : List Int32} (w : pd_wf (a_tokenCount, a_tokenOp, a_tokenValue, a_inputCount, a_inputCoin, a_inputA, a_inputB, a_outputCount, a_outputAmount, a_outputScript, a_parentOf, a_heightOf, a_rewardScript, a_blockSize, a_blockTransaction, a_feeOf, a_rewardAmount) made blocks) (wE : pd_wf (b_length, b_op, b_arg, b_ins, b_inCoin, b_inA, b_inB, b_outs, b_amount, b_lock, b_parent, b_height, b_rewardLock, b_many, b_holds, gfe, grw) made blocks) (ag : pd_ag (a_tokenCount, a_tokenOp, a_tokenValue, a_inputCount, a_inputCoin, a_inputA, a_inputB, a_outputCount, a_outputAmount, a_outputScript, a_parentOf, a_heightOf, a_rewardScript, a_blockSize, a_blockTransaction, a_feeOf, a_rewardAmount) (b_length, b_op, b_arg, b_ins, b_inCoin, b_inA, b_inB, b_outs, b_amount, b_lock, b_parent, b_height, b_rewardLock, b_many, b_holds, gfe, grw) made blocks) (tk : fx_tok a_tokenCount a_tokenOp a_tokenValue) (tkE : fx_tok b_length b_op b_arg) (fq : pd_feq (b_length, b_op, b_arg, b_ins, b_inCoin, b_inA, b_inB, b_outs, b_amount, b_lock, b_parent, b_height, b_rewardLock, b_many, b_holds, gfe, grw) made)
    (I : pd_inv (a_tokenCount, a_tokenOp, a_tokenValue, a_inputCount, a_inputCoin, a_inputA, a_inputB, a_outputCount, a_outputAmount, a_outputScript, a_parentOf, a_heightOf, a_rewardScript, a_blockSize, a_blockTransaction, a_feeOf, a_rewardAmount) made blocks S) (rg : pd_rng S.1) (sp : ∀ c, c < 152 → ¬ S.2.1 c = 0 → 0 ≤ S.1 c)
    (htp : tp < blocks) (eh : a_heightOf tp = nI n) (eh' : b_height tp = nI n) (hn : n < 32) (hL : L.length ≤ 52) :
    ∀ (d i np : Nat) (pl : Nat → Int32), i + d = L.length → pd_pool (a_tokenCount, a_tokenOp, a_tokenValue, a_inputCount, a_inputCoin, a_inputA, a_inputB, a_outputCount, a_outputAmount, a_outputScript, a_parentOf, a_heightOf, a_rewardScript, a_blockSize, a_blockTransaction, a_feeOf, a_rewardAmount) S made pl np → ∃ (pl' : Nat → Int32) (np' : Nat), pd_pool (a_tokenCount, a_tokenOp, a_tokenValue, a_inputCount, a_inputCoin, a_inputA, a_inputB, a_outputCount, a_outputAmount, a_outputScript, a_parentOf, a_heightOf, a_rewardScript, a_blockSize, a_blockTransaction, a_feeOf, a_rewardAmount) S made pl' np'
      ∧ (∀ (post : SX → Prop) (lb0 q0 : Nat → Int32), qu_h q0 L → (∀ ss st mk, post (ss, nI made, f_putCount, f_blocks, nI tp, nI np', nI L.length, a_tokenCount, a_tokenOp, a_tokenValue, a_scriptInUse, st, a_inputCount, a_inputCoin, a_inputA, a_inputB, a_outputCount, a_outputAmount, a_outputScript, a_feeOf, a_putRow, a_parentOf, a_heightOf, a_chainWork, a_blockState, a_rewardAmount, a_rewardScript, a_blockSize, a_blockTransaction, lb0, S.1, S.2.1, S.2.2, pl', mk, q0)) → ∀ (ss0 : Int32) (st0 mk0 : Nat → Int32) (fuel : Nat), d < fuel → wX_arrive_73 post fuel (nI i) ss0 (nI made) f_putCount f_blocks (nI tp) (nI np) (nI L.length) a_tokenCount a_tokenOp a_tokenValue a_scriptInUse st0 a_inputCount a_inputCoin a_inputA a_inputB a_outputCount a_outputAmount a_outputScript a_feeOf a_putRow a_parentOf a_heightOf a_chainWork a_blockState a_rewardAmount a_rewardScript a_blockSize a_blockTransaction lb0 S.1 S.2.1 S.2.2 pl mk0 q0)
      ∧ (∀ (post : SY → Prop) (cl0 : Int32) (wo0 ch0 ag0 : Nat → Int32), pd_wor (b_length, b_op, b_arg, b_ins, b_inCoin, b_inA, b_inB, b_outs, b_amount, b_lock, b_parent, b_height, b_rewardLock, b_many, b_holds, gfe, grw) S.1 wo0 → qu_h ag0 L → (∀ st, post (nI made, g_blocks, g_arrivals, nI tp, nI np', cl0, b_op, b_arg, b_length, b_ins, b_inCoin, b_inA, b_inB, b_outs, b_amount, b_lock, b_parent, b_work, b_rewardLock, b_height, b_many, b_holds, b_delivered, b_arrived, pl', ch0, S.1, wo0, S.2.2, S.2.1, st, ag0, b_chosen)) → ∀ (st0 : Nat → Int32) (fuel : Nat), d < fuel → wY_findTip_220 post (nI L.length) fuel (nI i) (nI made) g_blocks g_arrivals (nI tp) (nI np) cl0 b_op b_arg b_length b_ins b_inCoin b_inA b_inB b_outs b_amount b_lock b_parent b_work b_rewardLock b_height b_many b_holds b_delivered b_arrived pl ch0 S.1 wo0 S.2.2 S.2.1 st0 ag0 b_chosen) := by
  intro d
  induction d with
  | zero =>
    intro i np pl hi P
    refine ⟨pl, np, P, fun post lb0 q0 qX h ss0 st0 mk0 fuel hf => ?_, fun post cl0 wo0 ch0 ag0 wr qY h st0 fuel hf => ?_⟩
    · obtain ⟨fuel, rfl⟩ : ∃ q, fuel = q + 1 := ⟨fuel - 1, by omega⟩
      exact br_t (nI_le (by omega) (by omega)) (h _ _ _)
    · obtain ⟨fuel, rfl⟩ : ∃ q, fuel = q + 1 := ⟨fuel - 1, by omega⟩
      exact br_t (nI_le (by omega) (by omega)) (h _)
  | succ d ih =>
    intro i np pl hi P
    obtain ⟨r, pl1, np1, P1, hX1, hY1⟩ := ad_take (f_putCount := f_putCount) (f_blocks := f_blocks) (a_scriptInUse := a_scriptInUse) (a_putRow := a_putRow) (a_chainWork := a_chainWork) (a_blockState := a_blockState)
      (g_blocks := g_blocks) (g_arrivals := g_arrivals) (b_work := b_work) (b_delivered := b_delivered) (b_arrived := b_arrived) (b_chosen := b_chosen)
      w wE ag tk tkE fq I rg sp htp eh eh' hn P (L[i]'(by omega)) 0
    obtain ⟨pl2, np2, P2, hX2, hY2⟩ := ih (i + 1) np1 pl1 (by omega) P1
    refine ⟨pl2, np2, P2, fun post lb0 q0 qX h ss0 st0 mk0 fuel hf => ?_, fun post cl0 wo0 ch0 ag0 wr qY h st0 fuel hf => ?_⟩
    · obtain ⟨fuel, rfl⟩ : ∃ q, fuel = q + 1 := ⟨fuel - 1, by omega⟩
      refine pk_le L.length i (fun z => by omega) (fun z => ⟨pk_in i 52 (by omega), ?_⟩)
      rw [pk_cl i, qX i (by omega)]
      exact hX1 _ ss0 _ st0 mk0 lb0 q0 fun ss st mk => nm_r (nI_1 i) (hX2 post lb0 q0 qX h ss st mk fuel (by omega))
    · obtain ⟨fuel, rfl⟩ : ∃ q, fuel = q + 1 := ⟨fuel - 1, by omega⟩
      refine pk_le L.length i (fun z => by omega) (fun z => ⟨pk_in i 200 (by omega), ?_⟩)
      rw [pk_cl i, qY i (by omega)]
      exact hY1 _ cl0 st0 wo0 ch0 ag0 wr fun st => nm_r (nI_1 i) (hY2 post cl0 wo0 ch0 ag0 wr qY h st fuel (by omega))
end
end
section
/-! one arrival, side by side -/
theorem pd_ag_va {D E : pd_D} {made blocks b : Nat} (w : pd_wf D made blocks) (a : pd_ag D E made blocks) (hb : b < blocks) : pd_va E b ↔ pd_va D b := by
  obtain ⟨n, _, hn, he⟩ := pd_he_of w hb
  unfold pd_va
  rw [(a.2.1 b hb).1, pd_cl he (by omega)]
  exact pd_ag_valid w a n b hb he hn
theorem pd_va_n {D : pd_D} {b n : Nat} (he : pd_he D b = nI n) (hn : n < 32) : pd_va D b ↔ pd_valid D n b := by
  unfold pd_va
  rw [pd_cl he (by omega)]
theorem cn_wrk_ag {D E : pd_D} {made blocks : Nat} {wk cw : pd_F} (a : pd_ag D E made blocks) (h : cn_wrk D wk cw blocks) : cn_wrk E wk cw blocks := by
  refine ⟨h.1, h.2.1, fun b h0 hb => ?_⟩
  rw [(a.2.1 b hb).2.2.2.2.1 h0]
  exact h.2.2 b h0 hb
section
variable {f_stackSize f_transactions f_putCount f_blocks f_tip f_poolCount f_queueCount : Int32} {a_tokenCount a_tokenOp a_tokenValue a_scriptInUse a_stack a_inputCount a_inputCoin a_inputA a_inputB a_outputCount a_outputAmount a_outputScript a_feeOf a_putRow a_parentOf a_heightOf a_chainWork a_blockState a_rewardAmount a_rewardScript a_blockSize a_blockTransaction a_laidBlock a_coinHeight a_coinSpent a_transactionHeight a_poolRow a_marked a_queue : Nat → Int32}
variable {g_made g_blocks g_arrivals g_tip g_pooled g_chainLength : Int32} {b_op b_arg b_length b_ins b_inCoin b_inA b_inB b_outs b_amount b_lock b_parent b_work b_rewardLock b_height b_many b_holds b_delivered b_arrived b_pool b_chain b_from b_worth b_within b_spent b_stack b_again b_chosen gfe grw : Nat → Int32}
theorem ar_one {made blocks ar tp n np b : Nat} {pl : Nat → Int32} (w : pd_wf (a_tokenCount, a_tokenOp, a_tokenValue, a_inputCount, a_inputCoin, a_inputA, a_inputB, a_outputCount, a_outputAmount, a_outputScript, a_parentOf, a_heightOf, a_rewardScript, a_blockSize, a_blockTransaction, a_feeOf, a_rewardAmount) made blocks) (ag : pd_ag (a_tokenCount, a_tokenOp, a_tokenValue, a_inputCount, a_inputCoin, a_inputA, a_inputB, a_outputCount, a_outputAmount, a_outputScript, a_parentOf, a_heightOf, a_rewardScript, a_blockSize, a_blockTransaction, a_feeOf, a_rewardAmount) (b_length, b_op, b_arg, b_ins, b_inCoin, b_inA, b_inB, b_outs, b_amount, b_lock, b_parent, b_height, b_rewardLock, b_many, b_holds, gfe, grw) made blocks) (tk : fx_tok a_tokenCount a_tokenOp a_tokenValue) (tkE : fx_tok b_length b_op b_arg) (fq : pd_feq (a_tokenCount, a_tokenOp, a_tokenValue, a_inputCount, a_inputCoin, a_inputA, a_inputB, a_outputCount, a_outputAmount, a_outputScript, a_parentOf, a_heightOf, a_rewardScript, a_blockSize, a_blockTransaction, a_feeOf, a_rewardAmount) made) (rq : pd_req (a_tokenCount, a_tokenOp, a_tokenValue, a_inputCount, a_inputCoin, a_inputA, a_inputB, a_outputCount, a_outputAmount, a_outputScript, a_parentOf, a_heightOf, a_rewardScript, a_blockSize, a_blockTransaction, a_feeOf, a_rewardAmount) blocks) (hp0 : b_parent 0 = -1)
    (B : cn_blk (a_tokenCount, a_tokenOp, a_tokenValue, a_inputCount, a_inputCoin, a_inputA, a_inputB, a_outputCount, a_outputAmount, a_outputScript, a_parentOf, a_heightOf, a_rewardScript, a_blockSize, a_blockTransaction, a_feeOf, a_rewardAmount) a_blockState b_delivered b_arrived a_chainWork b_work blocks ar tp b) (hb : b < blocks) (hb0 : 0 < b) (edl : b_delivered b = 1) (eav : b_arrived b = -1) (hpa : 0 ≤ b_arrived (a_parentOf b).toNatClampNeg)
    (eh : a_heightOf tp = nI n) (hn : n < 32) (P : pd_pool (a_tokenCount, a_tokenOp, a_tokenValue, a_inputCount, a_inputCoin, a_inputA, a_inputB, a_outputCount, a_outputAmount, a_outputScript, a_parentOf, a_heightOf, a_rewardScript, a_blockSize, a_blockTransaction, a_feeOf, a_rewardAmount) (pd_lay (a_tokenCount, a_tokenOp, a_tokenValue, a_inputCount, a_inputCoin, a_inputA, a_inputB, a_outputCount, a_outputAmount, a_outputScript, a_parentOf, a_heightOf, a_rewardScript, a_blockSize, a_blockTransaction, a_feeOf, a_rewardAmount) n tp) made pl np) :
    ∃ (T nT np' : Nat) (pl' : Nat → Int32) (z : Int32), T < blocks ∧ a_heightOf T = nI nT ∧ nT < 32 ∧ pd_pool (a_tokenCount, a_tokenOp, a_tokenValue, a_inputCount, a_inputCoin, a_inputA, a_inputB, a_outputCount, a_outputAmount, a_outputScript, a_parentOf, a_heightOf, a_rewardScript, a_blockSize, a_blockTransaction, a_feeOf, a_rewardAmount) (pd_lay (a_tokenCount, a_tokenOp, a_tokenValue, a_inputCount, a_inputCoin, a_inputA, a_inputB, a_outputCount, a_outputAmount, a_outputScript, a_parentOf, a_heightOf, a_rewardScript, a_blockSize, a_blockTransaction, a_feeOf, a_rewardAmount) nT T) made pl' np' ∧ (z = 2 ∨ z = 3) ∧ cn_blk (a_tokenCount, a_tokenOp, a_tokenValue, a_inputCount, a_inputCoin, a_inputA, a_inputB, a_outputCount, a_outputAmount, a_outputScript, a_parentOf, a_heightOf, a_rewardScript, a_blockSize, a_blockTransaction, a_feeOf, a_rewardAmount) (upd a_blockState b z) b_delivered (upd b_arrived b (nI ar)) a_chainWork b_work blocks (ar + 1) T 99
      ∧ (∀ (post : SX → Prop) (S : pd_S) (ss0 qc0 : Int32) (st0 mk0 lb0 q0 : Nat → Int32), pd_out S → (∀ ss st mk laid qc q, (∀ h, h ≤ nT → laid h = nI (pd_anc (a_tokenCount, a_tokenOp, a_tokenValue, a_inputCount, a_inputCoin, a_inputA, a_inputB, a_outputCount, a_outputAmount, a_outputScript, a_parentOf, a_heightOf, a_rewardScript, a_blockSize, a_blockTransaction, a_feeOf, a_rewardAmount) T (nT - h))) → post (ss, nI made, f_putCount, nI blocks, nI T, nI np', qc, a_tokenCount, a_tokenOp, a_tokenValue, a_scriptInUse, st, a_inputCount, a_inputCoin, a_inputA, a_inputB, a_outputCount, a_outputAmount, a_outputScript, a_feeOf, a_putRow, a_parentOf, a_heightOf, a_chainWork, upd a_blockState b z, a_rewardAmount, a_rewardScript, a_blockSize, a_blockTransaction, laid, (pd_lay (a_tokenCount, a_tokenOp, a_tokenValue, a_inputCount, a_inputCoin, a_inputA, a_inputB, a_outputCount, a_outputAmount, a_outputScript, a_parentOf, a_heightOf, a_rewardScript, a_blockSize, a_blockTransaction, a_feeOf, a_rewardAmount) nT T).1, (pd_lay (a_tokenCount, a_tokenOp, a_tokenValue, a_inputCount, a_inputCoin, a_inputA, a_inputB, a_outputCount, a_outputAmount, a_outputScript, a_parentOf, a_heightOf, a_rewardScript, a_blockSize, a_blockTransaction, a_feeOf, a_rewardAmount) nT T).2.1, (pd_lay (a_tokenCount, a_tokenOp, a_tokenValue, a_inputCount, a_inputCoin, a_inputA, a_inputB, a_outputCount, a_outputAmount, a_outputScript, a_parentOf, a_heightOf, a_rewardScript, a_blockSize, a_blockTransaction, a_feeOf, a_rewardAmount) nT T).2.2, pl', mk, q)) →
          wpX_arrive post (ss0, nI made, f_putCount, nI blocks, nI tp, nI np, qc0, a_tokenCount, a_tokenOp, a_tokenValue, a_scriptInUse, st0, a_inputCount, a_inputCoin, a_inputA, a_inputB, a_outputCount, a_outputAmount, a_outputScript, a_feeOf, a_putRow, a_parentOf, a_heightOf, a_chainWork, a_blockState, a_rewardAmount, a_rewardScript, a_blockSize, a_blockTransaction, lb0, S.1, S.2.1, S.2.2, pl, mk0, q0) (nI b))
      ∧ (∀ (post : SY → Prop) (S : pd_S) (cl0 : Int32) (st0 wo0 ch0 ag0 : Nat → Int32), pd_out S → (∀ (S' : pd_S) (wo ch st ag : Nat → Int32) (cl : Int32), pd_out S' → post (nI made, nI blocks, nI (ar + 1), nI T, nI np', cl, b_op, b_arg, b_length, b_ins, b_inCoin, b_inA, b_inB, b_outs, b_amount, b_lock, b_parent, b_work, b_rewardLock, b_height, b_many, b_holds, b_delivered, upd b_arrived b (nI ar), pl', ch, (S').1, wo, (S').2.2, (S').2.1, st, ag, b_chosen)) →
          wpY_findTip post (nI made, nI blocks, nI (ar + 1), nI tp, nI np, cl0, b_op, b_arg, b_length, b_ins, b_inCoin, b_inA, b_inB, b_outs, b_amount, b_lock, b_parent, b_work, b_rewardLock, b_height, b_many, b_holds, b_delivered, upd b_arrived b (nI ar), pl, ch0, S.1, wo0, S.2.2, S.2.1, st0, ag0, b_chosen)) := by
  have hm := w.2.2.1
  have hbk := w.2.1
  have hnp := P.1
  have wE := pd_wf_ag w ag
  have fqE := pd_feq_ag w ag fq
  have rqE := pd_req_ag w ag rq
  obtain ⟨htp, htpb, atp, vtp⟩ := B.2.2.2.2.2.1
  have vtp' : pd_valid (a_tokenCount, a_tokenOp, a_tokenValue, a_inputCount, a_inputCoin, a_inputA, a_inputB, a_outputCount, a_outputAmount, a_outputScript, a_parentOf, a_heightOf, a_rewardScript, a_blockSize, a_blockTransaction, a_feeOf, a_rewardAmount) n tp := (pd_va_n eh hn).mp vtp
  have ehE : b_height tp = nI n := ((ag.2.1 tp htp).1).trans eh
  obtain ⟨m, mb, hm32, ehb⟩ : ∃ m, m < b ∧ m + 1 < 32 ∧ a_heightOf b = nI (m + 1) := by
    obtain ⟨q, q1, q2, q3⟩ := pd_he_of w hb
    rcases Nat.eq_zero_or_pos q with e | e
    · subst e
      have := pd_par0 w hb q3
      omega
    · exact ⟨q - 1, by omega, by omega, by rw [show q - 1 + 1 = q by omega]; exact q3⟩
  have ehbE : b_height b = nI (m + 1) := ((ag.2.1 b hb).1).trans ehb
  obtain ⟨p, p1, p2, p3, p4⟩ := pd_par w hb ehb (by omega)
  have p3' : (a_parentOf b).toNatClampNeg = p := p3
  have hvb : pd_va (a_tokenCount, a_tokenOp, a_tokenValue, a_inputCount, a_inputCoin, a_inputA, a_inputB, a_outputCount, a_outputAmount, a_outputScript, a_parentOf, a_heightOf, a_rewardScript, a_blockSize, a_blockTransaction, a_feeOf, a_rewardAmount) b ↔ pd_valid (a_tokenCount, a_tokenOp, a_tokenValue, a_inputCount, a_inputCoin, a_inputA, a_inputB, a_outputCount, a_outputAmount, a_outputScript, a_parentOf, a_heightOf, a_rewardScript, a_blockSize, a_blockTransaction, a_feeOf, a_rewardAmount) (m + 1) b := pd_va_n ehb hm32
  have hst : a_blockState (a_parentOf b).toNatClampNeg = 3 ↔ pd_valid (a_tokenCount, a_tokenOp, a_tokenValue, a_inputCount, a_inputCoin, a_inputA, a_inputB, a_outputCount, a_outputAmount, a_outputScript, a_parentOf, a_heightOf, a_rewardScript, a_blockSize, a_blockTransaction, a_feeOf, a_rewardAmount) m (a_parentOf b).toNatClampNeg := by
    rw [p3'] at hpa ⊢
    have hvp := pd_va_n p4 (n := m) (by omega)
    rcases B.1 p (by omega) (by omega) with ⟨_, e, _⟩ | ⟨_, e, _⟩ | ⟨_, _, _, h | h⟩
    · rw [e] at hpa; exact (pd_m1 hpa).elim
    · rw [e] at hpa; exact (pd_m1 hpa).elim
    · exact ⟨fun _ => hvp.mp h.2, fun _ => h.1⟩
    · exact ⟨fun q => by rw [h.1] at q; exact absurd q (by decide), fun q => (h.2 (hvp.mpr q)).elim⟩
  have layTip := pd_inv_out (pd_inv_lay w n tp htp eh hn)
  -- X, as far as the tip's chain laid again
  have goX : ∀ (post : SX → Prop) (z : Int32), ((z = 3 ∧ pd_va (a_tokenCount, a_tokenOp, a_tokenValue, a_inputCount, a_inputCoin, a_inputA, a_inputB, a_outputCount, a_outputAmount, a_outputScript, a_parentOf, a_heightOf, a_rewardScript, a_blockSize, a_blockTransaction, a_feeOf, a_rewardAmount) b) ∨ (z = 2 ∧ ¬ pd_va (a_tokenCount, a_tokenOp, a_tokenValue, a_inputCount, a_inputCoin, a_inputA, a_inputB, a_outputCount, a_outputAmount, a_outputScript, a_parentOf, a_heightOf, a_rewardScript, a_blockSize, a_blockTransaction, a_feeOf, a_rewardAmount) b)) → ∀ (S : pd_S) (ss0 qc0 : Int32) (st0 mk0 lb0 q0 : Nat → Int32), pd_out S →
      (∀ (ss : Int32) (st laid : Nat → Int32), (∀ h, h ≤ n → laid h = nI (pd_anc (a_tokenCount, a_tokenOp, a_tokenValue, a_inputCount, a_inputCoin, a_inputA, a_inputB, a_outputCount, a_outputAmount, a_outputScript, a_parentOf, a_heightOf, a_rewardScript, a_blockSize, a_blockTransaction, a_feeOf, a_rewardAmount) tp (n - h))) →
        (¬ (pd_va (a_tokenCount, a_tokenOp, a_tokenValue, a_inputCount, a_inputCoin, a_inputA, a_inputB, a_outputCount, a_outputAmount, a_outputScript, a_parentOf, a_heightOf, a_rewardScript, a_blockSize, a_blockTransaction, a_feeOf, a_rewardAmount) b ∧ a_chainWork tp < a_chainWork b) → post (ss, nI made, f_putCount, nI blocks, nI tp, nI np, qc0, a_tokenCount, a_tokenOp, a_tokenValue, a_scriptInUse, st, a_inputCount, a_inputCoin, a_inputA, a_inputB, a_outputCount, a_outputAmount, a_outputScript, a_feeOf, a_putRow, a_parentOf, a_heightOf, a_chainWork, upd a_blockState b z, a_rewardAmount, a_rewardScript, a_blockSize, a_blockTransaction, laid, (pd_lay (a_tokenCount, a_tokenOp, a_tokenValue, a_inputCount, a_inputCoin, a_inputA, a_inputB, a_outputCount, a_outputAmount, a_outputScript, a_parentOf, a_heightOf, a_rewardScript, a_blockSize, a_blockTransaction, a_feeOf, a_rewardAmount) n tp).1, (pd_lay (a_tokenCount, a_tokenOp, a_tokenValue, a_inputCount, a_inputCoin, a_inputA, a_inputB, a_outputCount, a_outputAmount, a_outputScript, a_parentOf, a_heightOf, a_rewardScript, a_blockSize, a_blockTransaction, a_feeOf, a_rewardAmount) n tp).2.1, (pd_lay (a_tokenCount, a_tokenOp, a_tokenValue, a_inputCount, a_inputCoin, a_inputA, a_inputB, a_outputCount, a_outputAmount, a_outputScript, a_parentOf, a_heightOf, a_rewardScript, a_blockSize, a_blockTransaction, a_feeOf, a_rewardAmount) n tp).2.2, pl, mk0, q0))
        ∧ (pd_va (a_tokenCount, a_tokenOp, a_tokenValue, a_inputCount, a_inputCoin, a_inputA, a_inputB, a_outputCount, a_outputAmount, a_outputScript, a_parentOf, a_heightOf, a_rewardScript, a_blockSize, a_blockTransaction, a_feeOf, a_rewardAmount) b ∧ a_chainWork tp < a_chainWork b → wpX_queueForPool (fun u => match u with | (f_stackSizeq, f_transactionsq, f_putCountq, f_blocksq, f_tipq, f_poolCountq, f_queueCountq, a_tokenCountq, a_tokenOpq, a_tokenValueq, a_scriptInUseq, a_stackq, a_inputCountq, a_inputCoinq, a_inputAq, a_inputBq, a_outputCountq, a_outputAmountq, a_outputScriptq, a_feeOfq, a_putRowq, a_parentOfq, a_heightOfq, a_chainWorkq, a_blockStateq, a_rewardAmountq, a_rewardScriptq, a_blockSizeq, a_blockTransactionq, a_laidBlockq, a_coinHeightq, a_coinSpentq, a_transactionHeightq, a_poolRowq, a_markedq, a_queueq) => (wpX_layChain (fun u => match u with | (f_stackSizer, f_transactionsr, f_putCountr, f_blocksr, f_tipr, f_poolCountr, f_queueCountr, a_tokenCountr, a_tokenOpr, a_tokenValuer, a_scriptInUser, a_stackr, a_inputCountr, a_inputCoinr, a_inputAr, a_inputBr, a_outputCountr, a_outputAmountr, a_outputScriptr, a_feeOfr, a_putRowr, a_parentOfr, a_heightOfr, a_chainWorkr, a_blockStater, a_rewardAmountr, a_rewardScriptr, a_blockSizer, a_blockTransactionr, a_laidBlockr, a_coinHeightr, a_coinSpentr, a_transactionHeightr, a_poolRowr, a_markedr, a_queuer) => (∃ n73 : Nat, wX_arrive_73 post n73 0 f_stackSizer f_transactionsr f_putCountr f_blocksr f_tipr 0 f_queueCountr a_tokenCountr a_tokenOpr a_tokenValuer a_scriptInUser a_stackr a_inputCountr a_inputCoinr a_inputAr a_inputBr a_outputCountr a_outputAmountr a_outputScriptr a_feeOfr a_putRowr a_parentOfr a_heightOfr a_chainWorkr a_blockStater a_rewardAmountr a_rewardScriptr a_blockSizer a_blockTransactionr a_laidBlockr a_coinHeightr a_coinSpentr a_transactionHeightr a_poolRowr a_markedr a_queuer)) (f_stackSizeq, f_transactionsq, f_putCountq, f_blocksq, nI b, f_poolCountq, f_queueCountq, a_tokenCountq, a_tokenOpq, a_tokenValueq, a_scriptInUseq, a_stackq, a_inputCountq, a_inputCoinq, a_inputAq, a_inputBq, a_outputCountq, a_outputAmountq, a_outputScriptq, a_feeOfq, a_putRowq, a_parentOfq, a_heightOfq, a_chainWorkq, a_blockStateq, a_rewardAmountq, a_rewardScriptq, a_blockSizeq, a_blockTransactionq, a_laidBlockq, a_coinHeightq, a_coinSpentq, a_transactionHeightq, a_poolRowq, a_markedq, a_queueq) (nI b))) (ss, nI made, f_putCount, nI blocks, nI tp, nI np, qc0, a_tokenCount, a_tokenOp, a_tokenValue, a_scriptInUse, st, a_inputCount, a_inputCoin, a_inputA, a_inputB, a_outputCount, a_outputAmount, a_outputScript, a_feeOf, a_putRow, a_parentOf, a_heightOf, a_chainWork, upd a_blockState b z, a_rewardAmount, a_rewardScript, a_blockSize, a_blockTransaction, laid, (pd_lay (a_tokenCount, a_tokenOp, a_tokenValue, a_inputCount, a_inputCoin, a_inputA, a_inputB, a_outputCount, a_outputAmount, a_outputScript, a_parentOf, a_heightOf, a_rewardScript, a_blockSize, a_blockTransaction, a_feeOf, a_rewardAmount) n tp).1, (pd_lay (a_tokenCount, a_tokenOp, a_tokenValue, a_inputCount, a_inputCoin, a_inputA, a_inputB, a_outputCount, a_outputAmount, a_outputScript, a_parentOf, a_heightOf, a_rewardScript, a_blockSize, a_blockTransaction, a_feeOf, a_rewardAmount) n tp).2.1, (pd_lay (a_tokenCount, a_tokenOp, a_tokenValue, a_inputCount, a_inputCoin, a_inputA, a_inputB, a_outputCount, a_outputAmount, a_outputScript, a_parentOf, a_heightOf, a_rewardScript, a_blockSize, a_blockTransaction, a_feeOf, a_rewardAmount) n tp).2.2, pl, mk0, q0))) →
      wpX_arrive post (ss0, nI made, f_putCount, nI blocks, nI tp, nI np, qc0, a_tokenCount, a_tokenOp, a_tokenValue, a_scriptInUse, st0, a_inputCount, a_inputCoin, a_inputA, a_inputB, a_outputCount, a_outputAmount, a_outputScript, a_feeOf, a_putRow, a_parentOf, a_heightOf, a_chainWork, a_blockState, a_rewardAmount, a_rewardScript, a_blockSize, a_blockTransaction, lb0, S.1, S.2.1, S.2.2, pl, mk0, q0) (nI b) := by
    intro post z hz S ss0 qc0 st0 mk0 lb0 q0 hS hgo
    refine xm_ivp w tk hb ehb hm32 hnp rfl S hS hst (fun hv S' ss st laid ho => br_f (by decide) ?_) (fun hv S' ss st laid ho => br_t rfl ?_)
    · have va := hvb.mpr hv
      obtain rfl : z = 3 := by
        rcases hz with h | h
        · exact h.1
        · exact (h.2 va).elim
      refine ⟨pk_in b 32 (by omega), nm_r (by rw [pk_cl b]) (xm_layChain w htp eh hn S' ho fun laid' hl' => br_f (by decide) ⟨pk_in b 32 (by omega), pk_in tp 32 (by omega), ?_⟩)⟩
      obtain ⟨g1, g2⟩ := hgo ss st laid' hl'
      rw [pk_cl (x := nI tp) tp, pk_cl (x := nI b) b]
      exact br_c (fun q => g2 ⟨va, q⟩) (fun q => g1 fun q' => q q'.2)
    · have va : ¬ pd_va (a_tokenCount, a_tokenOp, a_tokenValue, a_inputCount, a_inputCoin, a_inputA, a_inputB, a_outputCount, a_outputAmount, a_outputScript, a_parentOf, a_heightOf, a_rewardScript, a_blockSize, a_blockTransaction, a_feeOf, a_rewardAmount) b := fun q => hv (hvb.mp q)
      obtain rfl : z = 2 := by
        rcases hz with h | h
        · exact (va h.2).elim
        · exact h.1
      refine ⟨pk_in b 32 (by omega), nm_r (by rw [pk_cl b]) (xm_layChain w htp eh hn S' ho fun laid' hl' => br_t rfl ?_)⟩
      exact (hgo ss st laid' hl').1 fun q' => va q'.1
  -- Y, as far as the search's end
  have goY : ∀ (post : SY → Prop) (T : Nat) (z : Int32), cn_blk (a_tokenCount, a_tokenOp, a_tokenValue, a_inputCount, a_inputCoin, a_inputA, a_inputB, a_outputCount, a_outputAmount, a_outputScript, a_parentOf, a_heightOf, a_rewardScript, a_blockSize, a_blockTransaction, a_feeOf, a_rewardAmount) (upd a_blockState b z) b_delivered (upd b_arrived b (nI ar)) a_chainWork b_work blocks (ar + 1) T 99 → ∀ (S : pd_S) (cl0 : Int32) (st0 wo0 ch0 ag0 : Nat → Int32), pd_out S →
      (∀ (S' : pd_S) (wo ch st : Nat → Int32) (cl : Int32), pd_out S' → ((nI T = nI tp → post (nI made, nI blocks, nI (ar + 1), nI tp, nI np, cl, b_op, b_arg, b_length, b_ins, b_inCoin, b_inA, b_inB, b_outs, b_amount, b_lock, b_parent, b_work, b_rewardLock, b_height, b_many, b_holds, b_delivered, upd b_arrived b (nI ar), pl, ch, (S').1, wo, (S').2.2, (S').2.1, st, ag0, b_chosen)) ∧ (¬ nI T = nI tp → wpY_walk (fun _ u => match u with | (g_madeq, g_blocksq, g_arrivalsq, g_tipq, g_pooledq, g_chainLengthq, b_opq, b_argq, b_lengthq, b_insq, b_inCoinq, b_inAq, b_inBq, b_outsq, b_amountq, b_lockq, b_parentq, b_workq, b_rewardLockq, b_heightq, b_manyq, b_holdsq, b_deliveredq, b_arrivedq, b_poolq, b_chainq, b_fromq, b_worthq, b_withinq, b_spentq, b_stackq, b_againq, b_chosenq) => (∃ n97 : Nat, wY_findTip_97 post (nI T) g_madeq g_blocksq g_arrivalsq g_tipq g_pooledq g_chainLengthq n97 0 0 b_opq b_argq b_lengthq b_insq b_inCoinq b_inAq b_inBq b_outsq b_amountq b_lockq b_parentq b_workq b_rewardLockq b_heightq b_manyq b_holdsq b_deliveredq b_arrivedq b_poolq b_chainq b_fromq b_worthq b_withinq b_spentq b_stackq b_againq b_chosenq)) (nI made, nI blocks, nI (ar + 1), nI tp, nI np, cl, b_op, b_arg, b_length, b_ins, b_inCoin, b_inA, b_inB, b_outs, b_amount, b_lock, b_parent, b_work, b_rewardLock, b_height, b_many, b_holds, b_delivered, upd b_arrived b (nI ar), pl, ch, (S').1, wo, (S').2.2, (S').2.1, st, ag0, b_chosen) (nI tp)))) →
      wpY_findTip post (nI made, nI blocks, nI (ar + 1), nI tp, nI np, cl0, b_op, b_arg, b_length, b_ins, b_inCoin, b_inA, b_inB, b_outs, b_amount, b_lock, b_parent, b_work, b_rewardLock, b_height, b_many, b_holds, b_delivered, upd b_arrived b (nI ar), pl, ch0, S.1, wo0, S.2.2, S.2.1, st0, ag0, b_chosen) := by
    intro post T z B' S cl0 st0 wo0 ch0 ag0 hS hgo
    obtain ⟨B1, B2, B3, B4, B5, ⟨T1, T2, T3, T4⟩, B7, B8⟩ := B'
    have B'' : cn_blk (a_tokenCount, a_tokenOp, a_tokenValue, a_inputCount, a_inputCoin, a_inputA, a_inputB, a_outputCount, a_outputAmount, a_outputScript, a_parentOf, a_heightOf, a_rewardScript, a_blockSize, a_blockTransaction, a_feeOf, a_rewardAmount) (upd a_blockState b z) b_delivered (upd b_arrived b (nI ar)) a_chainWork b_work blocks (ar + 1) T 99 := ⟨B1, B2, B3, B4, B5, ⟨T1, T2, T3, T4⟩, B7, B8⟩
    have har : ar + 1 ≤ 32 := by rw [B3]; exact pd_cnt_le _ _
    refine ym_find wE tkE fqE rqE a_chainWork (cn_wrk_ag ag B5) hp0 rfl T1 T3 ((pd_ag_va w ag T1).mpr T4) B8 (fun c hc c0 => ?_) (fun c hc hcT c0 vc => B7 c hc hcT c0 ((pd_ag_va w ag hc).mp vc)) S hS (fun S' wo ch st cl ho => hgo S' wo ch st cl ho)
    obtain ⟨a, a1, a2⟩ := cn_av hbk B'' hc (by omega) c0
    exact ⟨a, by omega, a2⟩
  by_cases hsw : pd_va (a_tokenCount, a_tokenOp, a_tokenValue, a_inputCount, a_inputCoin, a_inputA, a_inputB, a_outputCount, a_outputAmount, a_outputScript, a_parentOf, a_heightOf, a_rewardScript, a_blockSize, a_blockTransaction, a_feeOf, a_rewardAmount) b ∧ a_chainWork tp < a_chainWork b
  · -- the chain changes
    obtain ⟨va, hlt⟩ := hsw
    have vb : pd_valid (a_tokenCount, a_tokenOp, a_tokenValue, a_inputCount, a_inputCoin, a_inputA, a_inputB, a_outputCount, a_outputAmount, a_outputScript, a_parentOf, a_heightOf, a_rewardScript, a_blockSize, a_blockTransaction, a_feeOf, a_rewardAmount) (m + 1) b := hvb.mp va
    have vbE : pd_valid (b_length, b_op, b_arg, b_ins, b_inCoin, b_inA, b_inB, b_outs, b_amount, b_lock, b_parent, b_height, b_rewardLock, b_many, b_holds, gfe, grw) (m + 1) b := (pd_ag_valid w ag (m + 1) b hb ehb hm32).mpr vb
    have vtE : pd_valid (b_length, b_op, b_arg, b_ins, b_inCoin, b_inA, b_inB, b_outs, b_amount, b_lock, b_parent, b_height, b_rewardLock, b_many, b_holds, gfe, grw) n tp := (pd_ag_valid w ag n tp htp eh hn).mpr vtp'
    have B' := cn_arr (z := 3) w B hb hb0 edl eav hpa (Or.inl ⟨rfl, va⟩) (T := b) (Or.inl ⟨rfl, va, hlt⟩)
    have h40 := qu_c_40 w htp eh hn vtp'
    have h40E : (qu_c (b_length, b_op, b_arg, b_ins, b_inCoin, b_inA, b_inB, b_outs, b_amount, b_lock, b_parent, b_height, b_rewardLock, b_many, b_holds, gfe, grw) tp n (n + 1)).length ≤ 40 := by rw [qu_c_ag w ag htp eh hn (n + 1) (Nat.le_refl _)]; exact h40
    have hlen := qu_p_len (qu_c (a_tokenCount, a_tokenOp, a_tokenValue, a_inputCount, a_inputCoin, a_inputA, a_inputB, a_outputCount, a_outputAmount, a_outputScript, a_parentOf, a_heightOf, a_rewardScript, a_blockSize, a_blockTransaction, a_feeOf, a_rewardAmount) tp n (n + 1)) pl np
    have Ib := pd_inv_lay w (m + 1) b hb ehb hm32
    obtain ⟨pl', np', P', hX, hY⟩ := ad_loop (L := qu_p (qu_c (a_tokenCount, a_tokenOp, a_tokenValue, a_inputCount, a_inputCoin, a_inputA, a_inputB, a_outputCount, a_outputAmount, a_outputScript, a_parentOf, a_heightOf, a_rewardScript, a_blockSize, a_blockTransaction, a_feeOf, a_rewardAmount) tp n (n + 1)) pl np) (S := pd_lay (a_tokenCount, a_tokenOp, a_tokenValue, a_inputCount, a_inputCoin, a_inputA, a_inputB, a_outputCount, a_outputAmount, a_outputScript, a_parentOf, a_heightOf, a_rewardScript, a_blockSize, a_blockTransaction, a_feeOf, a_rewardAmount) (m + 1) b) (tp := b) (n := m + 1) (f_putCount := f_putCount) (f_blocks := nI blocks) (a_scriptInUse := a_scriptInUse) (a_putRow := a_putRow) (a_chainWork := a_chainWork) (a_blockState := upd a_blockState b 3)
      (g_blocks := nI blocks) (g_arrivals := nI (ar + 1)) (b_work := b_work) (b_delivered := b_delivered) (b_arrived := upd b_arrived b (nI ar)) (b_chosen := b_chosen)
      w wE ag tk tkE fqE Ib (pd_rng_lay w (m + 1) b hb ehb hm32) (pd_sp_lay w (m + 1) b hb ehb hm32 vb) hb ehb ehbE hm32 (by rw [hlen]; omega) ((qu_c (a_tokenCount, a_tokenOp, a_tokenValue, a_inputCount, a_inputCoin, a_inputA, a_inputB, a_outputCount, a_outputAmount, a_outputScript, a_parentOf, a_heightOf, a_rewardScript, a_blockSize, a_blockTransaction, a_feeOf, a_rewardAmount) tp n (n + 1)).length + np) 0 0 pl (by rw [hlen]; omega) ⟨by omega, fun k hk => by omega⟩
    rw [hlen] at hX hY
    refine ⟨b, m + 1, np', pl', 3, hb, ehb, hm32, P', Or.inr rfl, B', fun post S ss0 qc0 st0 mk0 lb0 q0 hS h => ?_, fun post S cl0 st0 wo0 ch0 ag0 hS h => ?_⟩
    · refine goX post 3 (Or.inl ⟨rfl, va⟩) S ss0 qc0 st0 mk0 lb0 q0 hS fun ss st laid hl => ⟨fun q => (q ⟨va, hlt⟩).elim, fun _ => ?_⟩
      refine xm_queue w htp eh hn hnp hl h40 fun q hq => ?_
      refine xm_layChain w hb ehb hm32 _ layTip fun laid' hl' => ⟨(qu_c (a_tokenCount, a_tokenOp, a_tokenValue, a_inputCount, a_inputCoin, a_inputA, a_inputB, a_outputCount, a_outputAmount, a_outputScript, a_parentOf, a_heightOf, a_rewardScript, a_blockSize, a_blockTransaction, a_feeOf, a_rewardAmount) tp n (n + 1)).length + np + 1, ?_⟩
      exact hX post laid' q hq (fun ss' st' mk' => h _ _ _ _ _ _ hl') ss st mk0 _ (by omega)
    · refine goY post b 3 B' S cl0 st0 wo0 ch0 ag0 hS fun S' wo ch st cl ho => ⟨fun e => ?_, fun _ => ?_⟩
      · rw [nI_eq (by omega) (by omega)] at e
        exact (htpb e.symm).elim
      · refine ym_walk wE tkE fqE rqE htp ehE hn S' ho (fun _ wo' st' ch' hw' hc' => ?_) (fun q => (q vtE).elim)
        refine ym_queue wE htp ehE hn hnp hc' h40E fun q hq => ?_
        rw [qu_c_ag w ag htp eh hn (n + 1) (Nat.le_refl _)] at hq ⊢
        refine ym_walk wE tkE fqE rqE hb ehbE hm32 _ (pd_inv_out (pd_inv_lay wE n tp htp ehE hn)) (fun _ wo2 st2 ch2 hw2 hc2 => ?_) (fun q => (q vbE).elim)
        have e := pd_ag_lay w ag (m + 1) b hb ehb hm32
        rw [e] at hw2 ⊢
        exact ⟨_, hY post _ wo2 ch2 q hw2 hq (fun st3 => h _ _ _ _ _ _ (pd_inv_out Ib)) st2 ((qu_c (a_tokenCount, a_tokenOp, a_tokenValue, a_inputCount, a_inputCoin, a_inputA, a_inputB, a_outputCount, a_outputAmount, a_outputScript, a_parentOf, a_heightOf, a_rewardScript, a_blockSize, a_blockTransaction, a_feeOf, a_rewardAmount) tp n (n + 1)).length + np + 1) (by omega)⟩
  · -- the tip stays
    have hz : ∃ z : Int32, (z = 3 ∧ pd_va (a_tokenCount, a_tokenOp, a_tokenValue, a_inputCount, a_inputCoin, a_inputA, a_inputB, a_outputCount, a_outputAmount, a_outputScript, a_parentOf, a_heightOf, a_rewardScript, a_blockSize, a_blockTransaction, a_feeOf, a_rewardAmount) b) ∨ (z = 2 ∧ ¬ pd_va (a_tokenCount, a_tokenOp, a_tokenValue, a_inputCount, a_inputCoin, a_inputA, a_inputB, a_outputCount, a_outputAmount, a_outputScript, a_parentOf, a_heightOf, a_rewardScript, a_blockSize, a_blockTransaction, a_feeOf, a_rewardAmount) b) := by
      rcases Classical.em (pd_va (a_tokenCount, a_tokenOp, a_tokenValue, a_inputCount, a_inputCoin, a_inputA, a_inputB, a_outputCount, a_outputAmount, a_outputScript, a_parentOf, a_heightOf, a_rewardScript, a_blockSize, a_blockTransaction, a_feeOf, a_rewardAmount) b) with h | h
      · exact ⟨3, Or.inl ⟨rfl, h⟩⟩
      · exact ⟨2, Or.inr ⟨rfl, h⟩⟩
    obtain ⟨z, hz⟩ := hz
    have B' := cn_arr (z := z) w B hb hb0 edl eav hpa hz (T := tp) (Or.inr ⟨rfl, hsw⟩)
    refine ⟨tp, n, np, pl, z, htp, eh, hn, P, by rcases hz with h | h; exact Or.inr h.1; exact Or.inl h.1, B', fun post S ss0 qc0 st0 mk0 lb0 q0 hS h => ?_, fun post S cl0 st0 wo0 ch0 ag0 hS h => ?_⟩
    · exact goX post z hz S ss0 qc0 st0 mk0 lb0 q0 hS fun ss st laid hl => ⟨fun _ => h _ _ _ _ _ _ hl, fun q => (hsw q).elim⟩
    · exact goY post tp z B' S cl0 st0 wo0 ch0 ag0 hS fun S' wo ch st cl ho => ⟨fun _ => h _ _ _ _ _ _ ho, fun q => (q rfl).elim⟩
end
end
section
/-! the relation -/
def cn_used (D : pd_D) (use : pd_F) (made blocks : Nat) : Prop := ∀ s, s < 8 → (use s = 0 ∧ ¬ pd_used D made blocks s) ∨ (use s = 1 ∧ pd_used D made blocks s)
def cn_drf (D E : pd_D) (made blocks : Nat) : Prop := ∃ di od, di ≤ 3 ∧ od ≤ 3 ∧ pd_ic D made = nI di ∧ pd_ic E 40 = nI di ∧ pd_oc D made = nI od ∧ pd_oc E 40 = nI od
    ∧ (∀ i, i < di → pd_co D (3 * made + i) = pd_co E (120 + i) ∧ pd_ia D (3 * made + i) = pd_ia E (120 + i) ∧ pd_ib D (3 * made + i) = pd_ib E (120 + i) ∧ ∃ c, c < 152 ∧ pd_co D (3 * made + i) = nI c ∧ pd_coin D made blocks c)
    ∧ (∀ i j, i < di → j < di → pd_co D (3 * made + i) = pd_co D (3 * made + j) → i = j)
    ∧ (∀ o, o < od → pd_oa D (3 * made + o) = pd_oa E (120 + o) ∧ pd_os D (3 * made + o) = pd_os E (120 + o) ∧ ∃ s, s < 8 ∧ pd_os D (3 * made + o) = nI s)
    ∧ (∀ t, made < t → t ≤ 40 → pd_ic D t = 0 ∧ pd_oc D t = 0)
def cn_put (D E : pd_D) (pr : pd_F) (made pc : Nat) : Prop := pc ≤ 4 ∧ pd_bs E 32 = nI pc ∧ ∀ i, i < pc → pr i = pd_bt E (128 + i) ∧ ∃ t, t < made ∧ pr i = nI t
def cn_fre (D : pd_D) (blocks : Nat) : Prop := ∀ b, blocks ≤ b → b < 32 → pd_bs D b = 0
def cn_rdy (D : pd_D) (dl av : pd_F) (blocks : Nat) : Prop := ∀ b, 0 < b → b < blocks → dl b = 1 → av b = -1 → av (pd_pa D b).toNatClampNeg < 0
/-- what does not speak of the tip, of states or of scratch -/
def cn_stat (D E : pd_D) (use pr : pd_F) (made blocks pc : Nat) : Prop := fx_tok (pd_tc D) (pd_op D) (pd_tv D) ∧ pd_wf D made blocks ∧ pd_ag D E made blocks ∧ pd_feq D made ∧ pd_req D blocks ∧ pd_pa E 0 = -1
    ∧ cn_used D use made blocks ∧ cn_drf D E made blocks ∧ cn_put D E pr made pc ∧ cn_fre D blocks
def i_Rel (k : Nat) (u : SX) (v : SY) : Prop := match u, v with
  | (f_stackSize, f_transactions, f_putCount, f_blocks, f_tip, f_poolCount, f_queueCount, a_tokenCount, a_tokenOp, a_tokenValue, a_scriptInUse, a_stack, a_inputCount, a_inputCoin, a_inputA, a_inputB, a_outputCount, a_outputAmount, a_outputScript, a_feeOf, a_putRow, a_parentOf, a_heightOf, a_chainWork, a_blockState, a_rewardAmount, a_rewardScript, a_blockSize, a_blockTransaction, a_laidBlock, a_coinHeight, a_coinSpent, a_transactionHeight, a_poolRow, a_marked, a_queue), (g_made, g_blocks, g_arrivals, g_tip, g_pooled, g_chainLength, b_op, b_arg, b_length, b_ins, b_inCoin, b_inA, b_inB, b_outs, b_amount, b_lock, b_parent, b_work, b_rewardLock, b_height, b_many, b_holds, b_delivered, b_arrived, b_pool, b_chain, b_from, b_worth, b_within, b_spent, b_stack, b_again, b_chosen) => ∃ made blocks tp n np pc ar : Nat,
    (f_transactions = nI made ∧ f_blocks = nI blocks ∧ f_tip = nI tp ∧ f_poolCount = nI np ∧ f_putCount = nI pc)
    ∧ (g_made = nI made ∧ g_blocks = nI blocks ∧ g_tip = nI tp ∧ g_pooled = nI np ∧ g_arrivals = nI ar)
    ∧ (a_tokenCount = b_length ∧ a_tokenOp = b_op ∧ a_tokenValue = b_arg ∧ a_poolRow = b_pool)
    ∧ (a_coinHeight = (pd_lay (a_tokenCount, a_tokenOp, a_tokenValue, a_inputCount, a_inputCoin, a_inputA, a_inputB, a_outputCount, a_outputAmount, a_outputScript, a_parentOf, a_heightOf, a_rewardScript, a_blockSize, a_blockTransaction, a_feeOf, a_rewardAmount) n tp).1 ∧ a_coinSpent = (pd_lay (a_tokenCount, a_tokenOp, a_tokenValue, a_inputCount, a_inputCoin, a_inputA, a_inputB, a_outputCount, a_outputAmount, a_outputScript, a_parentOf, a_heightOf, a_rewardScript, a_blockSize, a_blockTransaction, a_feeOf, a_rewardAmount) n tp).2.1 ∧ a_transactionHeight = (pd_lay (a_tokenCount, a_tokenOp, a_tokenValue, a_inputCount, a_inputCoin, a_inputA, a_inputB, a_outputCount, a_outputAmount, a_outputScript, a_parentOf, a_heightOf, a_rewardScript, a_blockSize, a_blockTransaction, a_feeOf, a_rewardAmount) n tp).2.2)
    ∧ cn_stat (a_tokenCount, a_tokenOp, a_tokenValue, a_inputCount, a_inputCoin, a_inputA, a_inputB, a_outputCount, a_outputAmount, a_outputScript, a_parentOf, a_heightOf, a_rewardScript, a_blockSize, a_blockTransaction, a_feeOf, a_rewardAmount) (a_tokenCount, a_tokenOp, a_tokenValue, b_ins, b_inCoin, b_inA, b_inB, b_outs, b_amount, b_lock, b_parent, b_height, b_rewardLock, b_many, b_holds, a_feeOf, a_rewardAmount) a_scriptInUse a_putRow made blocks pc
    ∧ cn_blk (a_tokenCount, a_tokenOp, a_tokenValue, a_inputCount, a_inputCoin, a_inputA, a_inputB, a_outputCount, a_outputAmount, a_outputScript, a_parentOf, a_heightOf, a_rewardScript, a_blockSize, a_blockTransaction, a_feeOf, a_rewardAmount) a_blockState b_delivered b_arrived a_chainWork b_work blocks ar tp 99
    ∧ cn_rdy (a_tokenCount, a_tokenOp, a_tokenValue, a_inputCount, a_inputCoin, a_inputA, a_inputB, a_outputCount, a_outputAmount, a_outputScript, a_parentOf, a_heightOf, a_rewardScript, a_blockSize, a_blockTransaction, a_feeOf, a_rewardAmount) b_delivered b_arrived blocks
    ∧ (a_heightOf tp = nI n ∧ n < 32) ∧ (∀ h, h ≤ n → a_laidBlock h = nI (pd_anc (a_tokenCount, a_tokenOp, a_tokenValue, a_inputCount, a_inputCoin, a_inputA, a_inputB, a_outputCount, a_outputAmount, a_outputScript, a_parentOf, a_heightOf, a_rewardScript, a_blockSize, a_blockTransaction, a_feeOf, a_rewardAmount) tp (n - h)))
    ∧ pd_pool (a_tokenCount, a_tokenOp, a_tokenValue, a_inputCount, a_inputCoin, a_inputA, a_inputB, a_outputCount, a_outputAmount, a_outputScript, a_parentOf, a_heightOf, a_rewardScript, a_blockSize, a_blockTransaction, a_feeOf, a_rewardAmount) (pd_lay (a_tokenCount, a_tokenOp, a_tokenValue, a_inputCount, a_inputCoin, a_inputA, a_inputB, a_outputCount, a_outputAmount, a_outputScript, a_parentOf, a_heightOf, a_rewardScript, a_blockSize, a_blockTransaction, a_feeOf, a_rewardAmount) n tp) made a_poolRow np ∧ pd_out (b_from, b_spent, b_within)
theorem i_up {k : Nat} {u : SX} {v : SY} (h : i_Rel k u v) : i_Rel (k + 4) u v := h
section
variable {f_stackSize f_transactions f_putCount f_blocks f_tip f_poolCount f_queueCount : Int32} {a_tokenCount a_tokenOp a_tokenValue a_scriptInUse a_stack a_inputCount a_inputCoin a_inputA a_inputB a_outputCount a_outputAmount a_outputScript a_feeOf a_putRow a_parentOf a_heightOf a_chainWork a_blockState a_rewardAmount a_rewardScript a_blockSize a_blockTransaction a_laidBlock a_coinHeight a_coinSpent a_transactionHeight a_poolRow a_marked a_queue : Nat → Int32}
variable {g_made g_blocks g_arrivals g_tip g_pooled g_chainLength : Int32} {b_op b_arg b_length b_ins b_inCoin b_inA b_inB b_outs b_amount b_lock b_parent b_work b_rewardLock b_height b_many b_holds b_delivered b_arrived b_pool b_chain b_from b_worth b_within b_spent b_stack b_again b_chosen gfe grw : Nat → Int32}
theorem rl_scr {k j : Nat} (I : i_Rel k (f_stackSize, f_transactions, f_putCount, f_blocks, f_tip, f_poolCount, f_queueCount, a_tokenCount, a_tokenOp, a_tokenValue, a_scriptInUse, a_stack, a_inputCount, a_inputCoin, a_inputA, a_inputB, a_outputCount, a_outputAmount, a_outputScript, a_feeOf, a_putRow, a_parentOf, a_heightOf, a_chainWork, a_blockState, a_rewardAmount, a_rewardScript, a_blockSize, a_blockTransaction, a_laidBlock, a_coinHeight, a_coinSpent, a_transactionHeight, a_poolRow, a_marked, a_queue) (g_made, g_blocks, g_arrivals, g_tip, g_pooled, g_chainLength, b_op, b_arg, b_length, b_ins, b_inCoin, b_inA, b_inB, b_outs, b_amount, b_lock, b_parent, b_work, b_rewardLock, b_height, b_many, b_holds, b_delivered, b_arrived, b_pool, b_chain, b_from, b_worth, b_within, b_spent, b_stack, b_again, b_chosen)) (S : pd_S) (hS : pd_out S) (wo ch st ag co : Nat → Int32) (cl : Int32) : i_Rel j (f_stackSize, f_transactions, f_putCount, f_blocks, f_tip, f_poolCount, f_queueCount, a_tokenCount, a_tokenOp, a_tokenValue, a_scriptInUse, a_stack, a_inputCount, a_inputCoin, a_inputA, a_inputB, a_outputCount, a_outputAmount, a_outputScript, a_feeOf, a_putRow, a_parentOf, a_heightOf, a_chainWork, a_blockState, a_rewardAmount, a_rewardScript, a_blockSize, a_blockTransaction, a_laidBlock, a_coinHeight, a_coinSpent, a_transactionHeight, a_poolRow, a_marked, a_queue) (g_made, g_blocks, g_arrivals, g_tip, g_pooled, cl, b_op, b_arg, b_length, b_ins, b_inCoin, b_inA, b_inB, b_outs, b_amount, b_lock, b_parent, b_work, b_rewardLock, b_height, b_many, b_holds, b_delivered, b_arrived, b_pool, ch, S.1, wo, S.2.2, S.2.1, st, ag, co) := by
  obtain ⟨made, blocks, tp, n, np, pc, ar, h1, h2, h3, h4, h5, h6, h7, h8, h9, h10, h11⟩ := I
  exact ⟨made, blocks, tp, n, np, pc, ar, h1, h2, h3, h4, h5, h6, h7, h8, h9, h10, hS⟩
theorem ry_tip {made blocks tp n : Nat} (w : pd_wf (a_tokenCount, a_tokenOp, a_tokenValue, a_inputCount, a_inputCoin, a_inputA, a_inputB, a_outputCount, a_outputAmount, a_outputScript, a_parentOf, a_heightOf, a_rewardScript, a_blockSize, a_blockTransaction, a_feeOf, a_rewardAmount) made blocks) (ag : pd_ag (a_tokenCount, a_tokenOp, a_tokenValue, a_inputCount, a_inputCoin, a_inputA, a_inputB, a_outputCount, a_outputAmount, a_outputScript, a_parentOf, a_heightOf, a_rewardScript, a_blockSize, a_blockTransaction, a_feeOf, a_rewardAmount) (b_length, b_op, b_arg, b_ins, b_inCoin, b_inA, b_inB, b_outs, b_amount, b_lock, b_parent, b_height, b_rewardLock, b_many, b_holds, gfe, grw) made blocks) (tkE : fx_tok b_length b_op b_arg) (fq : pd_feq (a_tokenCount, a_tokenOp, a_tokenValue, a_inputCount, a_inputCoin, a_inputA, a_inputB, a_outputCount, a_outputAmount, a_outputScript, a_parentOf, a_heightOf, a_rewardScript, a_blockSize, a_blockTransaction, a_feeOf, a_rewardAmount) made) (rq : pd_req (a_tokenCount, a_tokenOp, a_tokenValue, a_inputCount, a_inputCoin, a_inputA, a_inputB, a_outputCount, a_outputAmount, a_outputScript, a_parentOf, a_heightOf, a_rewardScript, a_blockSize, a_blockTransaction, a_feeOf, a_rewardAmount) blocks) (htp : tp < blocks) (eh : a_heightOf tp = nI n) (hn : n < 32) (vtp : pd_va (a_tokenCount, a_tokenOp, a_tokenValue, a_inputCount, a_inputCoin, a_inputA, a_inputB, a_outputCount, a_outputAmount, a_outputScript, a_parentOf, a_heightOf, a_rewardScript, a_blockSize, a_blockTransaction, a_feeOf, a_rewardAmount) tp) (S : pd_S) (hS : pd_out S) {post : Int32 → SY → Prop}
    (H : ∀ wo st ch, pd_wor (b_length, b_op, b_arg, b_ins, b_inCoin, b_inA, b_inB, b_outs, b_amount, b_lock, b_parent, b_height, b_rewardLock, b_many, b_holds, gfe, grw) (pd_lay (a_tokenCount, a_tokenOp, a_tokenValue, a_inputCount, a_inputCoin, a_inputA, a_inputB, a_outputCount, a_outputAmount, a_outputScript, a_parentOf, a_heightOf, a_rewardScript, a_blockSize, a_blockTransaction, a_feeOf, a_rewardAmount) n tp).1 wo → (∀ h, h ≤ n → ch h = nI (pd_anc (a_tokenCount, a_tokenOp, a_tokenValue, a_inputCount, a_inputCoin, a_inputA, a_inputB, a_outputCount, a_outputAmount, a_outputScript, a_parentOf, a_heightOf, a_rewardScript, a_blockSize, a_blockTransaction, a_feeOf, a_rewardAmount) tp (n - h))) → post 1 (g_made, g_blocks, g_arrivals, g_tip, g_pooled, nI (n + 1), b_op, b_arg, b_length, b_ins, b_inCoin, b_inA, b_inB, b_outs, b_amount, b_lock, b_parent, b_work, b_rewardLock, b_height, b_many, b_holds, b_delivered, b_arrived, b_pool, ch, (pd_lay (a_tokenCount, a_tokenOp, a_tokenValue, a_inputCount, a_inputCoin, a_inputA, a_inputB, a_outputCount, a_outputAmount, a_outputScript, a_parentOf, a_heightOf, a_rewardScript, a_blockSize, a_blockTransaction, a_feeOf, a_rewardAmount) n tp).1, wo, (pd_lay (a_tokenCount, a_tokenOp, a_tokenValue, a_inputCount, a_inputCoin, a_inputA, a_inputB, a_outputCount, a_outputAmount, a_outputScript, a_parentOf, a_heightOf, a_rewardScript, a_blockSize, a_blockTransaction, a_feeOf, a_rewardAmount) n tp).2.2, (pd_lay (a_tokenCount, a_tokenOp, a_tokenValue, a_inputCount, a_inputCoin, a_inputA, a_inputB, a_outputCount, a_outputAmount, a_outputScript, a_parentOf, a_heightOf, a_rewardScript, a_blockSize, a_blockTransaction, a_feeOf, a_rewardAmount) n tp).2.1, st, b_again, b_chosen)) :
    wpY_walk post (g_made, g_blocks, g_arrivals, g_tip, g_pooled, g_chainLength, b_op, b_arg, b_length, b_ins, b_inCoin, b_inA, b_inB, b_outs, b_amount, b_lock, b_parent, b_work, b_rewardLock, b_height, b_many, b_holds, b_delivered, b_arrived, b_pool, b_chain, S.1, b_worth, S.2.2, S.2.1, b_stack, b_again, b_chosen) (nI tp) := by
  have wE := pd_wf_ag w ag
  have ehE : b_height tp = nI n := ((ag.2.1 tp htp).1).trans eh
  refine ym_walk wE tkE (pd_feq_ag w ag fq) (pd_req_ag w ag rq) htp ehE hn S hS (fun _ wo st ch hw hc => ?_) (fun q => (q ((pd_ag_valid w ag n tp htp eh hn).mpr ((pd_va_n eh hn).mp vtp))).elim)
  rw [pd_ag_lay w ag n tp htp eh hn] at hw ⊢
  exact H wo st ch hw fun h hh => by rw [hc h hh, (pd_ag_anc w ag htp eh hn (n - h) (by omega)).1]
end
theorem rl_in {x : Int32} {n : Nat} (hn : n < 2 ^ 31) {post : Int32 → Prop} (H0 : (x < 0 ∨ nI n ≤ x) → post 0) (H1 : ∀ j, j < n → x = nI j → post 1) : ((x < 0 → (post 0)) ∧ (¬ x < 0 → (((nI n ≤ x → (post 0)) ∧ (¬ nI n ≤ x → (post 1)))))) := by
  rcases pk_ix x hn with h | h | ⟨j, hj, rfl⟩
  · exact br_t h (H0 (Or.inl h))
  · exact br_f (Int32.not_lt.mpr (Int32.le_trans (nI_pos' hn) h)) (br_t h (H0 (Or.inr h)))
  · exact br_f (nI_pos (by omega)) (br_f (nI_ge hj hn) (H1 j hj rfl))
/-! ### readers -/
theorem i_vc_pool {k : Nat} {u : SX} {v : SY} (I : i_Rel k u v) (hk : k + 4 ≤ 2048) (v1 : Int32) : wpX_pool (fun r => wpY_pool (fun r' => r' = r ∧ i_Rel (k + 4) u v) v v1) u v1 := by
  obtain ⟨f_stackSize, f_transactions, f_putCount, f_blocks, f_tip, f_poolCount, f_queueCount, a_tokenCount, a_tokenOp, a_tokenValue, a_scriptInUse, a_stack, a_inputCount, a_inputCoin, a_inputA, a_inputB, a_outputCount, a_outputAmount, a_outputScript, a_feeOf, a_putRow, a_parentOf, a_heightOf, a_chainWork, a_blockState, a_rewardAmount, a_rewardScript, a_blockSize, a_blockTransaction, a_laidBlock, a_coinHeight, a_coinSpent, a_transactionHeight, a_poolRow, a_marked, a_queue⟩ := u
  obtain ⟨g_made, g_blocks, g_arrivals, g_tip, g_pooled, g_chainLength, b_op, b_arg, b_length, b_ins, b_inCoin, b_inA, b_inB, b_outs, b_amount, b_lock, b_parent, b_work, b_rewardLock, b_height, b_many, b_holds, b_delivered, b_arrived, b_pool, b_chain, b_from, b_worth, b_within, b_spent, b_stack, b_again, b_chosen⟩ := v
  have I' := I
  obtain ⟨made, blocks, tp, n, np, pc, ar, ⟨rfl, rfl, rfl, rfl, rfl⟩, ⟨rfl, rfl, rfl, rfl, rfl⟩, ⟨rfl, rfl, rfl, rfl⟩, ⟨rfl, rfl, rfl⟩, ST, B, RD, ⟨eh, hn⟩, hl, P, hS⟩ := I
  have hnp := P.1
  rcases pk_ix v1 (n := np) (by omega) with h | h | ⟨j, hj, rfl⟩
  · exact br_t h (br_t h (br_t rfl ⟨rfl, I'⟩))
  · have h0 : ¬ v1 < 0 := Int32.not_lt.mpr (Int32.le_trans (nI_pos' (by omega)) h)
    exact br_f h0 (br_t h (br_f h0 (br_t h (br_t rfl ⟨rfl, I'⟩))))
  · have h0 : ¬ nI j < 0 := nI_pos (by omega)
    have h1 : ¬ nI np ≤ nI j := nI_ge hj (by omega)
    exact br_f h0 (br_f h1 ⟨pk_in j 12 (by omega), br_f h0 (br_f h1 (br_f (by decide) ⟨pk_in j 12 (by omega), rfl, I'⟩))⟩)
theorem i_vc_at {k : Nat} {u : SX} {v : SY} (I : i_Rel k u v) (hk : k + 4 ≤ 2048) (v1 : Int32) : wpX_at (fun r => wpY_at (fun r' v' => r' = r ∧ i_Rel (k + 4) u v') v v1) u v1 := by
  obtain ⟨f_stackSize, f_transactions, f_putCount, f_blocks, f_tip, f_poolCount, f_queueCount, a_tokenCount, a_tokenOp, a_tokenValue, a_scriptInUse, a_stack, a_inputCount, a_inputCoin, a_inputA, a_inputB, a_outputCount, a_outputAmount, a_outputScript, a_feeOf, a_putRow, a_parentOf, a_heightOf, a_chainWork, a_blockState, a_rewardAmount, a_rewardScript, a_blockSize, a_blockTransaction, a_laidBlock, a_coinHeight, a_coinSpent, a_transactionHeight, a_poolRow, a_marked, a_queue⟩ := u
  obtain ⟨g_made, g_blocks, g_arrivals, g_tip, g_pooled, g_chainLength, b_op, b_arg, b_length, b_ins, b_inCoin, b_inA, b_inB, b_outs, b_amount, b_lock, b_parent, b_work, b_rewardLock, b_height, b_many, b_holds, b_delivered, b_arrived, b_pool, b_chain, b_from, b_worth, b_within, b_spent, b_stack, b_again, b_chosen⟩ := v
  have I' := I
  obtain ⟨made, blocks, tp, n, np, pc, ar, ⟨rfl, rfl, rfl, rfl, rfl⟩, ⟨rfl, rfl, rfl, rfl, rfl⟩, ⟨rfl, rfl, rfl, rfl⟩, ⟨rfl, rfl, rfl⟩, ST, B, RD, ⟨eh, hn⟩, hl, P, hS⟩ := I
  obtain ⟨tk, w, ag, fq, rq, hp0, us, df, pu, fr⟩ := ST
  have hm := w.2.2.1
  rcases pk_ix v1 (n := made) (by omega) with h | h | ⟨j, hj, rfl⟩
  · exact br_t h (br_t rfl (br_t h (br_t rfl ⟨rfl, I'⟩)))
  · have h0 : ¬ v1 < 0 := Int32.not_lt.mpr (Int32.le_trans (nI_pos' (by omega)) h)
    exact br_f h0 (br_t h (br_t rfl (br_f h0 (br_t h (br_t rfl ⟨rfl, I'⟩)))))
  · have h0 : ¬ nI j < 0 := nI_pos (by omega)
    have h1 : ¬ nI made ≤ nI j := nI_ge hj (by omega)
    refine br_f h0 (br_f h1 (br_f (by decide) ⟨pk_in j 40 (by omega), br_f h0 (br_f h1 (br_f (by decide) ?_))⟩))
    exact ry_tip w ag tk fq rq B.2.2.2.2.2.1.1 eh hn B.2.2.2.2.2.1.2.2.2 _ hS fun wo st ch hw hc => ⟨pk_in j 40 (by omega), rfl, rl_scr I' _ (pd_inv_out (pd_inv_lay w n tp B.2.2.2.2.2.1.1 eh hn)) wo ch st _ _ _⟩
theorem i_vc_coin {k : Nat} {u : SX} {v : SY} (I : i_Rel k u v) (hk : k + 4 ≤ 2048) (v1 : Int32) : wpX_coin (fun r => wpY_coin (fun r' v' => r' = r ∧ i_Rel (k + 4) u v') v v1) u v1 := by
  obtain ⟨f_stackSize, f_transactions, f_putCount, f_blocks, f_tip, f_poolCount, f_queueCount, a_tokenCount, a_tokenOp, a_tokenValue, a_scriptInUse, a_stack, a_inputCount, a_inputCoin, a_inputA, a_inputB, a_outputCount, a_outputAmount, a_outputScript, a_feeOf, a_putRow, a_parentOf, a_heightOf, a_chainWork, a_blockState, a_rewardAmount, a_rewardScript, a_blockSize, a_blockTransaction, a_laidBlock, a_coinHeight, a_coinSpent, a_transactionHeight, a_poolRow, a_marked, a_queue⟩ := u
  obtain ⟨g_made, g_blocks, g_arrivals, g_tip, g_pooled, g_chainLength, b_op, b_arg, b_length, b_ins, b_inCoin, b_inA, b_inB, b_outs, b_amount, b_lock, b_parent, b_work, b_rewardLock, b_height, b_many, b_holds, b_delivered, b_arrived, b_pool, b_chain, b_from, b_worth, b_within, b_spent, b_stack, b_again, b_chosen⟩ := v
  have I' := I
  obtain ⟨made, blocks, tp, n, np, pc, ar, ⟨rfl, rfl, rfl, rfl, rfl⟩, ⟨rfl, rfl, rfl, rfl, rfl⟩, ⟨rfl, rfl, rfl, rfl⟩, ⟨rfl, rfl, rfl⟩, ST, B, RD, ⟨eh, hn⟩, hl, P, hS⟩ := I
  obtain ⟨tk, w, ag, fq, rq, hp0, us, df, pu, fr⟩ := ST
  have hO := pd_inv_out (pd_inv_lay w n tp B.2.2.2.2.2.1.1 eh hn)
  rcases pk_ix v1 (n := 152) (by omega) with h | h | ⟨j, hj, rfl⟩
  · exact br_t h (br_t h (br_t rfl ⟨rfl, I'⟩))
  · have h0 : ¬ v1 < 0 := Int32.not_lt.mpr (Int32.le_trans (nI_pos' (by omega)) h)
    exact br_f h0 (br_t h (br_f h0 (br_t h (br_t rfl ⟨rfl, I'⟩))))
  · have h0 : ¬ nI j < 0 := nI_pos (by omega)
    have h1 : ¬ (152 : Int32) ≤ nI j := nI_ge (b := 152) hj (by omega)
    refine br_f h0 (br_f h1 ⟨pk_in j 152 hj, ?_⟩)
    have ec : (nI j).toNatClampNeg = j := pk_cl j
    rw [ec]
    have goY : ∀ post : Int32 → SY → Prop, (∀ wo st ch, post (if 0 ≤ (pd_lay (a_tokenCount, a_tokenOp, a_tokenValue, a_inputCount, a_inputCoin, a_inputA, a_inputB, a_outputCount, a_outputAmount, a_outputScript, a_parentOf, a_heightOf, a_rewardScript, a_blockSize, a_blockTransaction, a_feeOf, a_rewardAmount) n tp).1 j then (if (pd_lay (a_tokenCount, a_tokenOp, a_tokenValue, a_inputCount, a_inputCoin, a_inputA, a_inputB, a_outputCount, a_outputAmount, a_outputScript, a_parentOf, a_heightOf, a_rewardScript, a_blockSize, a_blockTransaction, a_feeOf, a_rewardAmount) n tp).2.1 j = 0 then 2 else 1) else 0) (nI made, nI blocks, nI ar, nI tp, nI np, nI (n + 1), a_tokenOp, a_tokenValue, a_tokenCount, b_ins, b_inCoin, b_inA, b_inB, b_outs, b_amount, b_lock, b_parent, b_work, b_rewardLock, b_height, b_many, b_holds, b_delivered, b_arrived, a_poolRow, ch, (pd_lay (a_tokenCount, a_tokenOp, a_tokenValue, a_inputCount, a_inputCoin, a_inputA, a_inputB, a_outputCount, a_outputAmount, a_outputScript, a_parentOf, a_heightOf, a_rewardScript, a_blockSize, a_blockTransaction, a_feeOf, a_rewardAmount) n tp).1, wo, (pd_lay (a_tokenCount, a_tokenOp, a_tokenValue, a_inputCount, a_inputCoin, a_inputA, a_inputB, a_outputCount, a_outputAmount, a_outputScript, a_parentOf, a_heightOf, a_rewardScript, a_blockSize, a_blockTransaction, a_feeOf, a_rewardAmount) n tp).2.2, (pd_lay (a_tokenCount, a_tokenOp, a_tokenValue, a_inputCount, a_inputCoin, a_inputA, a_inputB, a_outputCount, a_outputAmount, a_outputScript, a_parentOf, a_heightOf, a_rewardScript, a_blockSize, a_blockTransaction, a_feeOf, a_rewardAmount) n tp).2.1, st, b_again, b_chosen)) → wpY_coin post (nI made, nI blocks, nI ar, nI tp, nI np, g_chainLength, a_tokenOp, a_tokenValue, a_tokenCount, b_ins, b_inCoin, b_inA, b_inB, b_outs, b_amount, b_lock, b_parent, b_work, b_rewardLock, b_height, b_many, b_holds, b_delivered, b_arrived, a_poolRow, b_chain, b_from, b_worth, b_within, b_spent, b_stack, b_again, b_chosen) (nI j) := by
      intro post H
      refine br_f h0 (br_f h1 (br_f (by decide) ?_))
      refine ry_tip w ag tk fq rq B.2.2.2.2.2.1.1 eh hn B.2.2.2.2.2.1.2.2.2 _ hS fun wo st ch hw hc => ⟨pk_in j 152 hj, ?_⟩
      have H' := H wo st ch
      rw [ec]
      refine br_c (fun z => ⟨pk_in j 152 hj, ?_⟩) (fun z => ?_)
      · rw [if_pos z] at H'
        refine br_c (fun z2 => ?_) (fun z2 => ?_)
        · rw [if_pos z2] at H'; exact H'
        · rw [if_neg z2] at H'; exact H'
      · rw [if_neg z] at H'; exact H'
    refine br_c (fun z => ⟨pk_in j 152 hj, br_c (fun z2 => goY _ fun wo st ch => ?_) (fun z2 => goY _ fun wo st ch => ?_)⟩) (fun z => goY _ fun wo st ch => ?_)
    · rw [if_pos z, if_pos z2]; exact ⟨rfl, rl_scr I' _ hO wo ch st _ _ _⟩
    · rw [if_pos z, if_neg z2]; exact ⟨rfl, rl_scr I' _ hO wo ch st _ _ _⟩
    · rw [if_neg z]; exact ⟨rfl, rl_scr I' _ hO wo ch st _ _ _⟩
theorem i_vc_active {k : Nat} {u : SX} {v : SY} (I : i_Rel k u v) (hk : k + 4 ≤ 2048) (v1 : Int32) : wpX_active (fun r => wpY_active (fun r' v' => r' = r ∧ i_Rel (k + 4) u v') v v1) u v1 := by
  obtain ⟨f_stackSize, f_transactions, f_putCount, f_blocks, f_tip, f_poolCount, f_queueCount, a_tokenCount, a_tokenOp, a_tokenValue, a_scriptInUse, a_stack, a_inputCount, a_inputCoin, a_inputA, a_inputB, a_outputCount, a_outputAmount, a_outputScript, a_feeOf, a_putRow, a_parentOf, a_heightOf, a_chainWork, a_blockState, a_rewardAmount, a_rewardScript, a_blockSize, a_blockTransaction, a_laidBlock, a_coinHeight, a_coinSpent, a_transactionHeight, a_poolRow, a_marked, a_queue⟩ := u
  obtain ⟨g_made, g_blocks, g_arrivals, g_tip, g_pooled, g_chainLength, b_op, b_arg, b_length, b_ins, b_inCoin, b_inA, b_inB, b_outs, b_amount, b_lock, b_parent, b_work, b_rewardLock, b_height, b_many, b_holds, b_delivered, b_arrived, b_pool, b_chain, b_from, b_worth, b_within, b_spent, b_stack, b_again, b_chosen⟩ := v
  have I' := I
  obtain ⟨made, blocks, tp, n, np, pc, ar, ⟨rfl, rfl, rfl, rfl, rfl⟩, ⟨rfl, rfl, rfl, rfl, rfl⟩, ⟨rfl, rfl, rfl, rfl⟩, ⟨rfl, rfl, rfl⟩, ST, B, RD, ⟨eh, hn⟩, hl, P, hS⟩ := I
  obtain ⟨tk, w, ag, fq, rq, hp0, us, df, pu, fr⟩ := ST
  have hbk := w.2.1
  have htp := B.2.2.2.2.2.1.1
  have hO := pd_inv_out (pd_inv_lay w n tp htp eh hn)
  have ehc : a_heightOf (nI tp).toNatClampNeg = nI n := by rw [pk_cl tp]; exact eh
  rcases pk_ix v1 (n := n + 1) (by omega) with h | h | ⟨j, hj, rfl⟩
  · exact br_t h (ry_tip w ag tk fq rq htp eh hn B.2.2.2.2.2.1.2.2.2 _ hS fun wo st ch hw hc => br_t h (br_t rfl ⟨rfl, rl_scr I' _ hO wo ch st _ _ _⟩))
  · have h0 : ¬ v1 < 0 := Int32.not_lt.mpr (Int32.le_trans (nI_pos' (by omega)) h)
    have h1 : ¬ v1 ≤ nI n := fun q => absurd (Int32.le_trans h q) (nI_ge (by omega) (by omega))
    refine br_f h0 ⟨pk_in tp 32 (by omega), ?_⟩
    rw [ehc]
    exact br_f h1 (ry_tip w ag tk fq rq htp eh hn B.2.2.2.2.2.1.2.2.2 _ hS fun wo st ch hw hc => br_f h0 (br_t h (br_t rfl ⟨rfl, rl_scr I' _ hO wo ch st _ _ _⟩)))
  · have h0 : ¬ nI j < 0 := nI_pos (by omega)
    refine br_f h0 ⟨pk_in tp 32 (by omega), ?_⟩
    rw [ehc]
    refine br_t (nI_le (by omega) (by omega)) ⟨pk_in j 32 (by omega), ry_tip w ag tk fq rq htp eh hn B.2.2.2.2.2.1.2.2.2 _ hS fun wo st ch hw hc => br_f h0 (br_f (nI_ge hj (by omega)) (br_f (by decide) ⟨pk_in j 32 (by omega), ?_, rl_scr I' _ hO wo ch st _ _ _⟩))⟩
    rw [pk_cl (x := nI j) j, hc j (by omega), hl j (by omega)]
theorem i_vc_fee {k : Nat} {u : SX} {v : SY} (I : i_Rel k u v) (hk : k + 4 ≤ 2048) (v1 : Int32) : wpX_fee (fun r => wpY_fee (fun r' v' => r' = r ∧ i_Rel (k + 4) u v') v v1) u v1 := by
  obtain ⟨f_stackSize, f_transactions, f_putCount, f_blocks, f_tip, f_poolCount, f_queueCount, a_tokenCount, a_tokenOp, a_tokenValue, a_scriptInUse, a_stack, a_inputCount, a_inputCoin, a_inputA, a_inputB, a_outputCount, a_outputAmount, a_outputScript, a_feeOf, a_putRow, a_parentOf, a_heightOf, a_chainWork, a_blockState, a_rewardAmount, a_rewardScript, a_blockSize, a_blockTransaction, a_laidBlock, a_coinHeight, a_coinSpent, a_transactionHeight, a_poolRow, a_marked, a_queue⟩ := u
  obtain ⟨g_made, g_blocks, g_arrivals, g_tip, g_pooled, g_chainLength, b_op, b_arg, b_length, b_ins, b_inCoin, b_inA, b_inB, b_outs, b_amount, b_lock, b_parent, b_work, b_rewardLock, b_height, b_many, b_holds, b_delivered, b_arrived, b_pool, b_chain, b_from, b_worth, b_within, b_spent, b_stack, b_again, b_chosen⟩ := v
  have I' := I
  obtain ⟨made, blocks, tp, n, np, pc, ar, ⟨rfl, rfl, rfl, rfl, rfl⟩, ⟨rfl, rfl, rfl, rfl, rfl⟩, ⟨rfl, rfl, rfl, rfl⟩, ⟨rfl, rfl, rfl⟩, ST, B, RD, ⟨eh, hn⟩, hl, P, hS⟩ := I
  obtain ⟨tk, w, ag, fq, rq, hp0, us, df, pu, fr⟩ := ST
  have hm := w.2.2.1
  have hnp := P.1
  have htp := B.2.2.2.2.2.1.1
  have hO := pd_inv_out (pd_inv_lay w n tp htp eh hn)
  rcases pk_ix v1 (n := np) (by omega) with h | h | ⟨j, hj, rfl⟩
  · exact br_t h (br_t h (br_t rfl ⟨rfl, I'⟩))
  · have h0 : ¬ v1 < 0 := Int32.not_lt.mpr (Int32.le_trans (nI_pos' (by omega)) h)
    exact br_f h0 (br_t h (br_f h0 (br_t h (br_t rfl ⟨rfl, I'⟩))))
  · have h0 : ¬ nI j < 0 := nI_pos (by omega)
    have h1 : ¬ nI np ≤ nI j := nI_ge hj (by omega)
    obtain ⟨t, ht, et, _, hin, _⟩ := P.2 j hj
    have ejc : a_poolRow (nI j).toNatClampNeg = nI t := by rw [pk_cl j]; exact et
    refine br_f h0 (br_f h1 ⟨pk_in j 12 (by omega), pk_in t 40 (by omega) ejc, br_f h0 (br_f h1 (br_f (by decide) ?_))⟩)
    refine ry_tip w ag tk fq rq htp eh hn B.2.2.2.2.2.1.2.2.2 _ hS fun wo st ch hw hc => ⟨pk_in j 12 (by omega), ?_⟩
    rw [ejc, pk_cl t]
    have agt := ag.1 t ht
    refine yq_fee (gfe := a_feeOf) (grw := a_rewardAmount) (pd_wf_ag w ag) (pd_feq_ag w ag fq) ht (fun i hi h120 => ?_) ⟨rfl, rl_scr I' _ hO wo ch st _ _ _⟩
    rw [agt.1] at hi
    have eco : b_inCoin (3 * t + i) = a_inputCoin (3 * t + i) := (agt.2.2.2.1 i hi).1
    obtain ⟨c, hc1, _, ecc, _⟩ := pd_wf_co w ht hi
    have ecc' : (a_inputCoin (3 * t + i)).toNatClampNeg = c := ecc
    have q := hin i hi
    rw [ecc] at q
    rw [eco, ecc'] at h120 ⊢
    rcases q with q | q
    · rw [hw c hc1 q.1]; exact if_neg (by omega)
    · omega
end
section
/-! block and balance -/
theorem pd_anc_s (D : pd_D) (b : Nat) : ∀ k, pd_anc D b (k + 1) = pd_anc D (pd_pa D b).toNatClampNeg k := by
  intro k
  induction k with
  | zero => rfl
  | succ k ih => rw [pd_anc, ih, pd_anc]
theorem pd_txs_hi {D : pd_D} {made blocks b c : Nat} {h : Int32} {S : pd_S} (w : pd_wf D made blocks) (hb : b < blocks) (hc : 120 ≤ c) : ∀ n, n ≤ (pd_bs D b).toNatClampNeg → (pd_txs D b h n S).1 c = S.1 c := by
  intro n
  induction n with
  | zero => intro _; rfl
  | succ n ih =>
    intro hn
    obtain ⟨t, h1, h2, h3⟩ := pd_bt_of w hb (i := n) (by omega)
    have hm := w.2.2.1
    obtain ⟨_, m, _, _, _, hm3, _, em, _⟩ := w.2.2.2.2.1 _ h1
    have emc := pd_cl em (by omega)
    rw [pd_txs, h3]
    show pd_setH _ _ _ _ c = _
    rw [pd_setH_no (by omega), ih (by omega)]
theorem pd_lay_rew {D : pd_D} {made blocks x : Nat} (w : pd_wf D made blocks) (hx : x < blocks) : ∀ n b, b < blocks → pd_he D b = nI n → n < 32 → (0 ≤ (pd_lay D n b).1 (120 + x) ↔ ∃ k, k ≤ n ∧ pd_anc D b k = x) := by
  have hbk := w.2.1
  intro n
  induction n with
  | zero =>
    intro b hb he hn
    show 0 ≤ upd _ (120 + b) (pd_he D b) (120 + x) ↔ _
    by_cases e : x = b
    · rw [e, pk_us, he]
      exact ⟨fun _ => ⟨0, Nat.le_refl _, rfl⟩, fun _ => nI_pos' (by omega)⟩
    · rw [pk_un (by omega), pd_txs_hi w hb (by omega) _ (Nat.le_refl _)]
      have e0 : pd_S0.1 (120 + x) = -1 := if_pos (by omega)
      rw [e0]
      refine ⟨fun q => (pd_m1 q).elim, fun ⟨k, k1, k2⟩ => ?_⟩
      obtain rfl : k = 0 := by omega
      exact (e k2.symm).elim
  | succ n ih =>
    intro b hb he hn
    obtain ⟨p, h1, h2, h3, h4⟩ := pd_par w hb he (by omega)
    rw [pd_lay]
    show 0 ≤ upd _ (120 + b) (pd_he D b) (120 + x) ↔ _
    by_cases e : x = b
    · rw [e, pk_us, he]
      exact ⟨fun _ => ⟨0, by omega, rfl⟩, fun _ => nI_pos' (by omega)⟩
    · rw [pk_un (by omega), pd_txs_hi w hb (by omega) _ (Nat.le_refl _), h3, ih p (by omega) h4 (by omega)]
      refine ⟨fun ⟨k, k1, k2⟩ => ⟨k + 1, by omega, by rw [pd_anc_s, h3]; exact k2⟩, fun ⟨k, k1, k2⟩ => ?_⟩
      cases k with
      | zero => exact (e k2.symm).elim
      | succ k => exact ⟨k, by omega, by rw [pd_anc_s, h3] at k2; exact k2⟩
theorem cn_anc_av {D : pd_D} {st dl av cw wk : pd_F} {made blocks ar tp n b : Nat} (w : pd_wf D made blocks) (B : cn_blk D st dl av cw wk blocks ar tp 99) (hb : b < blocks) (he : pd_he D b = nI n) (hn : n < 32) (h0 : 0 ≤ av b) : ∀ k, k ≤ n → 0 ≤ av (pd_anc D b k) := by
  have hbk := w.2.1
  intro k
  induction k with
  | zero => intro _; exact h0
  | succ k ih =>
    intro hk
    have h1 := ih (by omega)
    obtain ⟨q1, q2⟩ := pd_anc_of w hb he hn k (by omega)
    obtain ⟨p, p1, p2, p3, p4⟩ := pd_par w q1 (n := n - k - 1) (by rw [q2]; exact congrArg nI (by omega)) (by omega)
    rw [pd_anc]
    rcases B.1 _ q1 (by omega) with ⟨_, e, _⟩ | ⟨_, e, _⟩ | ⟨_, _, h, _⟩
    · rw [e] at h1; exact (pd_m1 h1).elim
    · rw [e] at h1; exact (pd_m1 h1).elim
    · exact h (by omega)
theorem i_vc_block {k : Nat} {u : SX} {v : SY} (I : i_Rel k u v) (hk : k + 4 ≤ 2048) (v1 : Int32) (v2 : Int32) : wpX_block (fun r => wpY_block (fun r' v' => r' = r ∧ i_Rel (k + 4) u v') v v1 v2) u v1 v2 := by
  obtain ⟨f_stackSize, f_transactions, f_putCount, f_blocks, f_tip, f_poolCount, f_queueCount, a_tokenCount, a_tokenOp, a_tokenValue, a_scriptInUse, a_stack, a_inputCount, a_inputCoin, a_inputA, a_inputB, a_outputCount, a_outputAmount, a_outputScript, a_feeOf, a_putRow, a_parentOf, a_heightOf, a_chainWork, a_blockState, a_rewardAmount, a_rewardScript, a_blockSize, a_blockTransaction, a_laidBlock, a_coinHeight, a_coinSpent, a_transactionHeight, a_poolRow, a_marked, a_queue⟩ := u
  obtain ⟨g_made, g_blocks, g_arrivals, g_tip, g_pooled, g_chainLength, b_op, b_arg, b_length, b_ins, b_inCoin, b_inA, b_inB, b_outs, b_amount, b_lock, b_parent, b_work, b_rewardLock, b_height, b_many, b_holds, b_delivered, b_arrived, b_pool, b_chain, b_from, b_worth, b_within, b_spent, b_stack, b_again, b_chosen⟩ := v
  have I' := I
  obtain ⟨made, blocks, tp, n, np, pc, ar, ⟨rfl, rfl, rfl, rfl, rfl⟩, ⟨rfl, rfl, rfl, rfl, rfl⟩, ⟨rfl, rfl, rfl, rfl⟩, ⟨rfl, rfl, rfl⟩, ST, B, RD, ⟨eh, hn⟩, hl, P, hS⟩ := I
  obtain ⟨tk, w, ag, fq, rq, hp0, us, df, pu, fr⟩ := ST
  have hbk := w.2.1
  have htp := B.2.2.2.2.2.1.1
  have vtp := B.2.2.2.2.2.1.2.2.2
  have wE := pd_wf_ag w ag
  have hO := pd_inv_out (pd_inv_lay w n tp htp eh hn)
  rcases pk_ix v1 (n := blocks) (by omega) with h | h | ⟨b, hb, rfl⟩
  · exact br_t h (br_t rfl (br_t h (br_t rfl ⟨rfl, I'⟩)))
  · have h0 : ¬ v1 < 0 := Int32.not_lt.mpr (Int32.le_trans (nI_pos' (by omega)) h)
    exact br_f h0 (br_t h (br_t rfl (br_f h0 (br_t h (br_t rfl ⟨rfl, I'⟩)))))
  have h0 : ¬ nI b < 0 := nI_pos (by omega)
  have h1 : ¬ nI blocks ≤ nI b := nI_ge hb (by omega)
  have ebc : (nI b).toNatClampNeg = b := pk_cl b
  refine br_f h0 (br_f h1 (br_f (by decide) ?_))
  rcases pk_ix v2 (n := 4) (by omega) with h | h | ⟨j, hj, rfl⟩
  · exact br_t h (br_f h0 (br_f h1 (br_f (by decide) (br_t h (br_t rfl ⟨rfl, I'⟩)))))
  · have h20 : ¬ v2 < 0 := Int32.not_lt.mpr (Int32.le_trans (by decide) h)
    have h23 : 3 < v2 := by
      rw [Int32.lt_iff_toInt_lt]
      have := Int32.le_iff_toInt_le.mp h
      rw [show (nI 4).toInt = 4 from by decide] at this
      rw [show (3 : Int32).toInt = 3 from by decide]
      omega
    exact br_f h20 (br_t h23 (br_f h0 (br_f h1 (br_f (by decide) (br_f h20 (br_t h (br_t rfl ⟨rfl, I'⟩)))))))
  have j0 : ¬ nI j < 0 := nI_pos (by omega)
  have j3 : ¬ (3 : Int32) < nI j := nI_nlt (a := 3) (by omega) (by omega)
  have j4 : ¬ (4 : Int32) ≤ nI j := nI_ge (b := 4) hj (by omega)
  obtain ⟨m, _, hm32, ehb⟩ := pd_he_of w hb
  have ehb' : a_heightOf b = nI m := ehb
  have ehbE : b_height b = nI m := ((ag.2.1 b hb).1).trans ehb
  have hvb : pd_va (a_tokenCount, a_tokenOp, a_tokenValue, a_inputCount, a_inputCoin, a_inputA, a_inputB, a_outputCount, a_outputAmount, a_outputScript, a_parentOf, a_heightOf, a_rewardScript, a_blockSize, a_blockTransaction, a_feeOf, a_rewardAmount) b ↔ pd_valid (a_tokenCount, a_tokenOp, a_tokenValue, a_inputCount, a_inputCoin, a_inputA, a_inputB, a_outputCount, a_outputAmount, a_outputScript, a_parentOf, a_heightOf, a_rewardScript, a_blockSize, a_blockTransaction, a_feeOf, a_rewardAmount) m b := pd_va_n ehb hm32
  have hvE := pd_ag_valid w ag m b hb ehb hm32
  have e120 : (120 : Int32) + nI b = nI (120 + b) := nI_add 120 b
  refine br_f j0 (br_f j3 ?_)
  rcases (by omega : j = 0 ∨ j = 1 ∨ j = 2 ∨ j = 3) with rfl | rfl | rfl | rfl
  · -- what = 0
    refine br_t (by decide) ⟨pk_in (120 + b) 152 (by omega) e120, ?_⟩
    rw [pk_cl (120 + b) e120]
    have hchain := pd_lay_rew w hb n tp htp eh hn
    have goY : ∀ post : Int32 → SY → Prop, (∀ (S : pd_S) (wo st ch : Nat → Int32) (cl : Int32), pd_out S →
        (((b_delivered (nI b).toNatClampNeg) = 0 → post 0 (nI made, nI blocks, nI ar, nI tp, nI np, cl, a_tokenOp, a_tokenValue, a_tokenCount, b_ins, b_inCoin, b_inA, b_inB, b_outs, b_amount, b_lock, b_parent, b_work, b_rewardLock, b_height, b_many, b_holds, b_delivered, b_arrived, a_poolRow, ch, S.1, wo, S.2.2, S.2.1, st, b_again, b_chosen))
        ∧ (¬ (b_delivered (nI b).toNatClampNeg) = 0 → (¬ 0 ≤ b_arrived b → post 1 (nI made, nI blocks, nI ar, nI tp, nI np, cl, a_tokenOp, a_tokenValue, a_tokenCount, b_ins, b_inCoin, b_inA, b_inB, b_outs, b_amount, b_lock, b_parent, b_work, b_rewardLock, b_height, b_many, b_holds, b_delivered, b_arrived, a_poolRow, ch, S.1, wo, S.2.2, S.2.1, st, b_again, b_chosen))
          ∧ (0 ≤ b_arrived b → ¬ pd_va (a_tokenCount, a_tokenOp, a_tokenValue, a_inputCount, a_inputCoin, a_inputA, a_inputB, a_outputCount, a_outputAmount, a_outputScript, a_parentOf, a_heightOf, a_rewardScript, a_blockSize, a_blockTransaction, a_feeOf, a_rewardAmount) b → post 2 (nI made, nI blocks, nI ar, nI tp, nI np, cl, a_tokenOp, a_tokenValue, a_tokenCount, b_ins, b_inCoin, b_inA, b_inB, b_outs, b_amount, b_lock, b_parent, b_work, b_rewardLock, b_height, b_many, b_holds, b_delivered, b_arrived, a_poolRow, ch, S.1, wo, S.2.2, S.2.1, st, b_again, b_chosen))
          ∧ (0 ≤ b_arrived b → pd_va (a_tokenCount, a_tokenOp, a_tokenValue, a_inputCount, a_inputCoin, a_inputA, a_inputB, a_outputCount, a_outputAmount, a_outputScript, a_parentOf, a_heightOf, a_rewardScript, a_blockSize, a_blockTransaction, a_feeOf, a_rewardAmount) b → (∃ q, q ≤ n ∧ pd_anc (a_tokenCount, a_tokenOp, a_tokenValue, a_inputCount, a_inputCoin, a_inputA, a_inputB, a_outputCount, a_outputAmount, a_outputScript, a_parentOf, a_heightOf, a_rewardScript, a_blockSize, a_blockTransaction, a_feeOf, a_rewardAmount) tp q = b) → post 4 (nI made, nI blocks, nI ar, nI tp, nI np, cl, a_tokenOp, a_tokenValue, a_tokenCount, b_ins, b_inCoin, b_inA, b_inB, b_outs, b_amount, b_lock, b_parent, b_work, b_rewardLock, b_height, b_many, b_holds, b_delivered, b_arrived, a_poolRow, ch, S.1, wo, S.2.2, S.2.1, st, b_again, b_chosen))
          ∧ (0 ≤ b_arrived b → pd_va (a_tokenCount, a_tokenOp, a_tokenValue, a_inputCount, a_inputCoin, a_inputA, a_inputB, a_outputCount, a_outputAmount, a_outputScript, a_parentOf, a_heightOf, a_rewardScript, a_blockSize, a_blockTransaction, a_feeOf, a_rewardAmount) b → ¬ (∃ q, q ≤ n ∧ pd_anc (a_tokenCount, a_tokenOp, a_tokenValue, a_inputCount, a_inputCoin, a_inputA, a_inputB, a_outputCount, a_outputAmount, a_outputScript, a_parentOf, a_heightOf, a_rewardScript, a_blockSize, a_blockTransaction, a_feeOf, a_rewardAmount) tp q = b) → post 3 (nI made, nI blocks, nI ar, nI tp, nI np, cl, a_tokenOp, a_tokenValue, a_tokenCount, b_ins, b_inCoin, b_inA, b_inB, b_outs, b_amount, b_lock, b_parent, b_work, b_rewardLock, b_height, b_many, b_holds, b_delivered, b_arrived, a_poolRow, ch, S.1, wo, S.2.2, S.2.1, st, b_again, b_chosen))))) →
        wpY_block post (nI made, nI blocks, nI ar, nI tp, nI np, g_chainLength, a_tokenOp, a_tokenValue, a_tokenCount, b_ins, b_inCoin, b_inA, b_inB, b_outs, b_amount, b_lock, b_parent, b_work, b_rewardLock, b_height, b_many, b_holds, b_delivered, b_arrived, a_poolRow, b_chain, b_from, b_worth, b_within, b_spent, b_stack, b_again, b_chosen) (nI b) (nI 0) := by
      intro post H
      refine br_f h0 (br_f h1 (br_f (by decide) (br_f j0 (br_f j4 (br_f (by decide) (br_f (by decide) (br_f (by decide) ?_)))))))
      refine ym_walk (gfe := a_feeOf) (grw := a_rewardAmount) wE tk (pd_feq_ag w ag fq) (pd_req_ag w ag rq) hb ehbE hm32 _ hS (fun hv wo st ch _ _ => br_f (by decide) ⟨pk_in b 32 (by omega), ?_⟩) (fun hv S wo st ch ho => br_f (by decide) ⟨pk_in b 32 (by omega), ?_⟩)
      · have va : pd_va (a_tokenCount, a_tokenOp, a_tokenValue, a_inputCount, a_inputCoin, a_inputA, a_inputB, a_outputCount, a_outputAmount, a_outputScript, a_parentOf, a_heightOf, a_rewardScript, a_blockSize, a_blockTransaction, a_feeOf, a_rewardAmount) b := hvb.mpr (hvE.mp hv)
        have ho := pd_inv_out (pd_inv_lay wE m b hb ehbE hm32)
        obtain ⟨g1, g2⟩ := H _ wo st ch (nI (m + 1)) ho
        refine br_c (fun z => g1 z) (fun z => ⟨pk_in b 32 (by omega), ?_⟩)
        obtain ⟨g3, g4, _, _⟩ := g2 z
        rw [ebc]
        refine br_c (fun z1 => br_f (by decide) ?_) (fun z1 => g3 z1)
        refine ry_tip (gfe := a_feeOf) (grw := a_rewardAmount) w ag tk fq rq htp eh hn vtp _ ho fun wo2 st2 ch2 hw hc => ⟨pk_in b 33 (by omega), ?_⟩
        obtain ⟨_, k2⟩ := H _ wo2 st2 ch2 (nI (n + 1)) hO
        obtain ⟨_, _, g5, g6⟩ := k2 z
        rw [ehbE]
        refine pk_le (n + 1) m (fun z2 => g6 z1 va fun ⟨q, q1, q2⟩ => ?_) (fun z2 => ⟨pk_in b 33 (by omega), pk_in m 32 hm32, ?_⟩)
        · have := (pd_anc_of w htp eh hn q q1).2
          rw [q2, ehb, nI_eq (by omega) (by omega)] at this
          omega
        · rw [pk_cl m, hc m (by omega)]
          refine pk_eq (pd_anc (a_tokenCount, a_tokenOp, a_tokenValue, a_inputCount, a_inputCoin, a_inputA, a_inputB, a_outputCount, a_outputAmount, a_outputScript, a_parentOf, a_heightOf, a_rewardScript, a_blockSize, a_blockTransaction, a_feeOf, a_rewardAmount) tp (n - m)) b (fun e => g5 z1 va ⟨n - m, by omega, e⟩) (fun e => g6 z1 va fun ⟨q, q1, q2⟩ => ?_) rfl rfl (by have := (pd_anc_of w htp eh hn (n - m) (by omega)).1; omega) (by omega)
          have := (pd_anc_of w htp eh hn q q1).2
          rw [q2, ehb, nI_eq (by omega) (by omega)] at this
          obtain rfl : q = n - m := by omega
          exact e q2
      · have va : ¬ pd_va (a_tokenCount, a_tokenOp, a_tokenValue, a_inputCount, a_inputCoin, a_inputA, a_inputB, a_outputCount, a_outputAmount, a_outputScript, a_parentOf, a_heightOf, a_rewardScript, a_blockSize, a_blockTransaction, a_feeOf, a_rewardAmount) b := fun q => hv (hvE.mpr (hvb.mp q))
        obtain ⟨g1, g2⟩ := H S wo st ch (nI (m + 1)) ho
        refine br_c (fun z => g1 z) (fun z => ⟨pk_in b 32 (by omega), ?_⟩)
        obtain ⟨g3, g4, _, _⟩ := g2 z
        rw [ebc]
        exact br_c (fun z1 => br_t rfl (g4 z1 va)) (fun z1 => g3 z1)
    have scr : ∀ (S : pd_S) (wo st ch : Nat → Int32) (cl : Int32), pd_out S → i_Rel (k + 4) (f_stackSize, nI made, nI pc, nI blocks, nI tp, nI np, f_queueCount, a_tokenCount, a_tokenOp, a_tokenValue, a_scriptInUse, a_stack, a_inputCount, a_inputCoin, a_inputA, a_inputB, a_outputCount, a_outputAmount, a_outputScript, a_feeOf, a_putRow, a_parentOf, a_heightOf, a_chainWork, a_blockState, a_rewardAmount, a_rewardScript, a_blockSize, a_blockTransaction, a_laidBlock, (pd_lay (a_tokenCount, a_tokenOp, a_tokenValue, a_inputCount, a_inputCoin, a_inputA, a_inputB, a_outputCount, a_outputAmount, a_outputScript, a_parentOf, a_heightOf, a_rewardScript, a_blockSize, a_blockTransaction, a_feeOf, a_rewardAmount) n tp).1, (pd_lay (a_tokenCount, a_tokenOp, a_tokenValue, a_inputCount, a_inputCoin, a_inputA, a_inputB, a_outputCount, a_outputAmount, a_outputScript, a_parentOf, a_heightOf, a_rewardScript, a_blockSize, a_blockTransaction, a_feeOf, a_rewardAmount) n tp).2.1, (pd_lay (a_tokenCount, a_tokenOp, a_tokenValue, a_inputCount, a_inputCoin, a_inputA, a_inputB, a_outputCount, a_outputAmount, a_outputScript, a_parentOf, a_heightOf, a_rewardScript, a_blockSize, a_blockTransaction, a_feeOf, a_rewardAmount) n tp).2.2, a_poolRow, a_marked, a_queue) (nI made, nI blocks, nI ar, nI tp, nI np, cl, a_tokenOp, a_tokenValue, a_tokenCount, b_ins, b_inCoin, b_inA, b_inB, b_outs, b_amount, b_lock, b_parent, b_work, b_rewardLock, b_height, b_many, b_holds, b_delivered, b_arrived, a_poolRow, ch, S.1, wo, S.2.2, S.2.1, st, b_again, b_chosen) := fun S wo st ch cl ho => rl_scr I' S ho wo ch st _ _ cl
    refine br_c (fun z => ⟨pk_in b 32 (by omega), goY _ fun S wo st ch cl ho => ?_⟩) (fun z => goY _ fun S wo st ch cl ho => ?_)
    · -- not in the chain: the state as X keeps it
      have hnc : ¬ ∃ q, q ≤ n ∧ pd_anc (a_tokenCount, a_tokenOp, a_tokenValue, a_inputCount, a_inputCoin, a_inputA, a_inputB, a_outputCount, a_outputAmount, a_outputScript, a_parentOf, a_heightOf, a_rewardScript, a_blockSize, a_blockTransaction, a_feeOf, a_rewardAmount) tp q = b := fun q => absurd (hchain.mpr q) (Int32.not_le.mpr z)
      have sc := scr S wo st ch cl ho
      rw [ebc]
      rcases B.1 b hb (by omega) with ⟨d1, d2, d3⟩ | ⟨d1, d2, d3⟩ | ⟨d1, ⟨a, d2, d3⟩, d4, d5⟩
      · rw [d3]
        exact ⟨fun _ => ⟨rfl, sc⟩, fun q => (q d1).elim⟩
      · rw [d3]
        refine ⟨fun q => by rw [d1] at q; exact absurd q (by decide), fun _ => ⟨fun _ => ⟨rfl, sc⟩, fun q => ?_, fun q => ?_, fun q => ?_⟩⟩
        · rw [d2] at q; exact (pd_m1 q).elim
        · rw [d2] at q; exact (pd_m1 q).elim
        · rw [d2] at q; exact (pd_m1 q).elim
      · have harr : ar ≤ 32 := by rw [B.2.2.1]; exact pd_cnt_le _ _
        have d3' : 0 ≤ b_arrived b := by rw [d3]; exact nI_pos' (by omega)
        refine ⟨fun q => by rw [d1] at q; exact absurd q (by decide), fun _ => ⟨fun q => (q d3').elim, fun _ q => ?_, fun _ _ q => (hnc q).elim, fun _ q _ => ?_⟩⟩
        · rcases d5 with ⟨e, e'⟩ | ⟨e, _⟩
          · exact (q e').elim
          · rw [e]; exact ⟨rfl, sc⟩
        · rcases d5 with ⟨e, e'⟩ | ⟨e, e'⟩
          · rw [e]; exact ⟨rfl, sc⟩
          · exact (e' q).elim
    · -- in the chain
      have hc := hchain.mp (Int32.not_lt.mp z)
      obtain ⟨q, q1, q2⟩ := hc
      have hav : 0 ≤ b_arrived b := by rw [← q2]; exact cn_anc_av w B htp eh hn B.2.2.2.2.2.1.2.2.1 q q1
      have hva : pd_va (a_tokenCount, a_tokenOp, a_tokenValue, a_inputCount, a_inputCoin, a_inputA, a_inputB, a_outputCount, a_outputAmount, a_outputScript, a_parentOf, a_heightOf, a_rewardScript, a_blockSize, a_blockTransaction, a_feeOf, a_rewardAmount) b := by
        have hq := pd_valid_anc n ((pd_va_n eh hn).mp vtp) q q1
        have := (pd_anc_of w htp eh hn q q1).2
        rw [q2] at hq this
        exact (pd_va_n this (by omega)).mpr hq
      have sc := scr S wo st ch cl ho
      refine ⟨fun q' => ?_, fun _ => ⟨fun q' => (q' hav).elim, fun _ q' => (q' hva).elim, fun _ _ _ => ⟨rfl, sc⟩, fun _ _ q' => (q' ⟨q, q1, q2⟩).elim⟩⟩
      rw [ebc] at q'
      rcases B.1 b hb (by omega) with ⟨_, d2, _⟩ | ⟨d1, _, _⟩ | ⟨d1, _⟩
      · rw [d2] at hav; exact (pd_m1 hav).elim
      · rw [d1] at q'; exact absurd q' (by decide)
      · rw [d1] at q'; exact absurd q' (by decide)
  · refine br_f (by decide) (br_t (by decide) ⟨pk_in b 32 (by omega), br_f h0 (br_f h1 (br_f (by decide) (br_f j0 (br_f j4 (br_f (by decide) (br_t (by decide) ⟨pk_in b 33 (by omega), ?_, I'⟩))))))⟩)
    rw [ebc, ehbE, ehb']
  · refine br_f (by decide) (br_f (by decide) (br_t (by decide) ⟨pk_in b 32 (by omega), br_f h0 (br_f h1 (br_f (by decide) (br_f j0 (br_f j4 (br_f (by decide) (br_f (by decide) (br_t (by decide) ?_)))))))⟩))
    rw [ebc]
    exact ym_workOf (gfe := a_feeOf) (grw := a_rewardAmount) wE a_chainWork (cn_wrk_ag ag B.2.2.2.2.1) hp0 b hb ⟨rfl, I'⟩
  · refine br_f (by decide) (br_f (by decide) (br_f (by decide) (br_t (by decide) ⟨pk_in b 32 (by omega), ?_⟩)))
    rw [ebc]
    have goY : ∀ post : Int32 → SY → Prop, (∀ (S : pd_S) (wo st ch : Nat → Int32) (cl : Int32), pd_out S → (0 ≤ b_arrived b → pd_va (a_tokenCount, a_tokenOp, a_tokenValue, a_inputCount, a_inputCoin, a_inputA, a_inputB, a_outputCount, a_outputAmount, a_outputScript, a_parentOf, a_heightOf, a_rewardScript, a_blockSize, a_blockTransaction, a_feeOf, a_rewardAmount) b → post (a_rewardAmount b) (nI made, nI blocks, nI ar, nI tp, nI np, cl, a_tokenOp, a_tokenValue, a_tokenCount, b_ins, b_inCoin, b_inA, b_inB, b_outs, b_amount, b_lock, b_parent, b_work, b_rewardLock, b_height, b_many, b_holds, b_delivered, b_arrived, a_poolRow, ch, S.1, wo, S.2.2, S.2.1, st, b_again, b_chosen)) ∧ (¬ (0 ≤ b_arrived b ∧ pd_va (a_tokenCount, a_tokenOp, a_tokenValue, a_inputCount, a_inputCoin, a_inputA, a_inputB, a_outputCount, a_outputAmount, a_outputScript, a_parentOf, a_heightOf, a_rewardScript, a_blockSize, a_blockTransaction, a_feeOf, a_rewardAmount) b) → post 0 (nI made, nI blocks, nI ar, nI tp, nI np, cl, a_tokenOp, a_tokenValue, a_tokenCount, b_ins, b_inCoin, b_inA, b_inB, b_outs, b_amount, b_lock, b_parent, b_work, b_rewardLock, b_height, b_many, b_holds, b_delivered, b_arrived, a_poolRow, ch, S.1, wo, S.2.2, S.2.1, st, b_again, b_chosen))) →
        wpY_block post (nI made, nI blocks, nI ar, nI tp, nI np, g_chainLength, a_tokenOp, a_tokenValue, a_tokenCount, b_ins, b_inCoin, b_inA, b_inB, b_outs, b_amount, b_lock, b_parent, b_work, b_rewardLock, b_height, b_many, b_holds, b_delivered, b_arrived, a_poolRow, b_chain, b_from, b_worth, b_within, b_spent, b_stack, b_again, b_chosen) (nI b) (nI 3) := by
      intro post H
      refine br_f h0 (br_f h1 (br_f (by decide) (br_f j0 (br_f j4 (br_f (by decide) (br_f (by decide) (br_f (by decide) ?_)))))))
      refine ym_walk (gfe := a_feeOf) (grw := a_rewardAmount) wE tk (pd_feq_ag w ag fq) (pd_req_ag w ag rq) hb ehbE hm32 _ hS (fun hv wo st ch hw _ => br_t (by decide) (br_f (by decide) ⟨pk_in b 32 (by omega), ?_⟩)) (fun hv S wo st ch ho => br_t (by decide) (br_t rfl ((H S wo st ch _ ho).2 fun q => hv (hvE.mpr (hvb.mp q.2)))))
      have va : pd_va (a_tokenCount, a_tokenOp, a_tokenValue, a_inputCount, a_inputCoin, a_inputA, a_inputB, a_outputCount, a_outputAmount, a_outputScript, a_parentOf, a_heightOf, a_rewardScript, a_blockSize, a_blockTransaction, a_feeOf, a_rewardAmount) b := hvb.mpr (hvE.mp hv)
      obtain ⟨g1, g2⟩ := H _ wo st ch (nI (m + 1)) (pd_inv_out (pd_inv_lay wE m b hb ehbE hm32))
      rw [ebc]
      refine br_c (fun z => g2 fun q => absurd q.1 (Int32.not_le.mpr z)) (fun z => ⟨pk_in (120 + b) 152 (by omega) e120, ?_⟩)
      rw [pk_cl (120 + b) e120]
      have hpos : 0 ≤ (pd_lay (a_tokenCount, a_tokenOp, a_tokenValue, b_ins, b_inCoin, b_inA, b_inB, b_outs, b_amount, b_lock, b_parent, b_height, b_rewardLock, b_many, b_holds, a_feeOf, a_rewardAmount) m b).1 (120 + b) := (pd_lay_rew wE hb m b hb ehbE hm32).mpr ⟨0, by omega, rfl⟩
      rw [hw (120 + b) (by omega) hpos]
      have ea : pd_amt (a_tokenCount, a_tokenOp, a_tokenValue, b_ins, b_inCoin, b_inA, b_inB, b_outs, b_amount, b_lock, b_parent, b_height, b_rewardLock, b_many, b_holds, a_feeOf, a_rewardAmount) (120 + b) = a_rewardAmount b := by
        unfold pd_amt
        rw [if_neg (by omega), show 120 + b - 120 = b by omega]
      rw [ea]
      exact g1 (Int32.not_lt.mp z) va
    have scr : ∀ (S : pd_S) (wo st ch : Nat → Int32) (cl : Int32), pd_out S → i_Rel (k + 4) (f_stackSize, nI made, nI pc, nI blocks, nI tp, nI np, f_queueCount, a_tokenCount, a_tokenOp, a_tokenValue, a_scriptInUse, a_stack, a_inputCount, a_inputCoin, a_inputA, a_inputB, a_outputCount, a_outputAmount, a_outputScript, a_feeOf, a_putRow, a_parentOf, a_heightOf, a_chainWork, a_blockState, a_rewardAmount, a_rewardScript, a_blockSize, a_blockTransaction, a_laidBlock, (pd_lay (a_tokenCount, a_tokenOp, a_tokenValue, a_inputCount, a_inputCoin, a_inputA, a_inputB, a_outputCount, a_outputAmount, a_outputScript, a_parentOf, a_heightOf, a_rewardScript, a_blockSize, a_blockTransaction, a_feeOf, a_rewardAmount) n tp).1, (pd_lay (a_tokenCount, a_tokenOp, a_tokenValue, a_inputCount, a_inputCoin, a_inputA, a_inputB, a_outputCount, a_outputAmount, a_outputScript, a_parentOf, a_heightOf, a_rewardScript, a_blockSize, a_blockTransaction, a_feeOf, a_rewardAmount) n tp).2.1, (pd_lay (a_tokenCount, a_tokenOp, a_tokenValue, a_inputCount, a_inputCoin, a_inputA, a_inputB, a_outputCount, a_outputAmount, a_outputScript, a_parentOf, a_heightOf, a_rewardScript, a_blockSize, a_blockTransaction, a_feeOf, a_rewardAmount) n tp).2.2, a_poolRow, a_marked, a_queue) (nI made, nI blocks, nI ar, nI tp, nI np, cl, a_tokenOp, a_tokenValue, a_tokenCount, b_ins, b_inCoin, b_inA, b_inB, b_outs, b_amount, b_lock, b_parent, b_work, b_rewardLock, b_height, b_many, b_holds, b_delivered, b_arrived, a_poolRow, ch, S.1, wo, S.2.2, S.2.1, st, b_again, b_chosen) := fun S wo st ch cl ho => rl_scr I' S ho wo ch st _ _ cl
    refine br_c (fun z => ⟨pk_in b 32 (by omega), goY _ fun S wo st ch cl ho => ⟨fun _ _ => ?_, fun q => ?_⟩⟩) (fun z => goY _ fun S wo st ch cl ho => ⟨fun q1 q2 => ?_, fun q => ⟨rfl, scr S wo st ch cl ho⟩⟩)
    · exact ⟨rfl, scr S wo st ch cl ho⟩
    · refine (q ?_).elim
      rcases B.1 b hb (by omega) with ⟨_, _, d3⟩ | ⟨_, _, d3⟩ | ⟨_, ⟨a, d2, d3⟩, _, d5⟩
      · rw [d3] at z; exact absurd z (by decide)
      · rw [d3] at z; exact absurd z (by decide)
      · have harr : ar ≤ 32 := by rw [B.2.2.1]; exact pd_cnt_le _ _
        rcases d5 with ⟨e, e'⟩ | ⟨e, e'⟩
        · exact ⟨by rw [d3]; exact nI_pos' (by omega), e'⟩
        · rw [e] at z; exact absurd z (by decide)
    · rcases B.1 b hb (by omega) with ⟨_, d2, _⟩ | ⟨_, d2, _⟩ | ⟨_, _, _, d5⟩
      · rw [d2] at q1; exact (pd_m1 q1).elim
      · rw [d2] at q1; exact (pd_m1 q1).elim
      · rcases d5 with ⟨e, _⟩ | ⟨_, e'⟩
        · exact (z e).elim
        · exact (e' q2).elim
end
section
/-! balance -/
def bl_t (D : pd_D) (S : pd_S) (x : Int32) (c : Nat) (acc : Int64) : Int64 := if 0 ≤ S.1 c ∧ S.2.1 c = 0 ∧ nI (pd_sc D c) = x then acc + (pd_amt D c).toInt64 else acc
def bl_s (D : pd_D) (S : pd_S) (x : Int32) : Nat → Int64
  | 0 => 0
  | c + 1 => bl_t D S x c (bl_s D S x c)
theorem bl_0 {D : pd_D} {made blocks : Nat} {S : pd_S} {x : Int32} (w : pd_wf D made blocks) (I : pd_inv D made blocks S) (hx : x < 0 ∨ nI 8 ≤ x) : ∀ c, c ≤ 152 → bl_s D S x c = 0 := by
  intro c
  induction c with
  | zero => intro _; rfl
  | succ c ih =>
    intro hc
    rw [bl_s, ih (by omega), bl_t, if_neg]
    intro ⟨q1, _, q3⟩
    have h8 := (pd_sc_eq w (I.2.2.2.1 c (by omega) q1)).1
    rcases hx with h | h
    · rw [← q3] at h; exact nI_pos (by omega) h
    · rw [← q3] at h; exact nI_ge h8 (by omega) h
section
variable {f_stackSize f_transactions f_putCount f_blocks f_tip f_poolCount f_queueCount : Int32} {a_tokenCount a_tokenOp a_tokenValue a_scriptInUse a_stack a_inputCount a_inputCoin a_inputA a_inputB a_outputCount a_outputAmount a_outputScript a_feeOf a_putRow a_parentOf a_heightOf a_chainWork a_blockState a_rewardAmount a_rewardScript a_blockSize a_blockTransaction a_laidBlock a_coinHeight a_coinSpent a_transactionHeight a_poolRow a_marked a_queue : Nat → Int32}
theorem xm_balance {made blocks : Nat} {S : pd_S} {x : Int32} (w : pd_wf (a_tokenCount, a_tokenOp, a_tokenValue, a_inputCount, a_inputCoin, a_inputA, a_inputB, a_outputCount, a_outputAmount, a_outputScript, a_parentOf, a_heightOf, a_rewardScript, a_blockSize, a_blockTransaction, a_feeOf, a_rewardAmount) made blocks) (I : pd_inv (a_tokenCount, a_tokenOp, a_tokenValue, a_inputCount, a_inputCoin, a_inputA, a_inputB, a_outputCount, a_outputAmount, a_outputScript, a_parentOf, a_heightOf, a_rewardScript, a_blockSize, a_blockTransaction, a_feeOf, a_rewardAmount) made blocks S) {post : Int64 → Prop} (H : post (bl_s (a_tokenCount, a_tokenOp, a_tokenValue, a_inputCount, a_inputCoin, a_inputA, a_inputB, a_outputCount, a_outputAmount, a_outputScript, a_parentOf, a_heightOf, a_rewardScript, a_blockSize, a_blockTransaction, a_feeOf, a_rewardAmount) S x 152)) : wpX_balance post (f_stackSize, f_transactions, f_putCount, f_blocks, f_tip, f_poolCount, f_queueCount, a_tokenCount, a_tokenOp, a_tokenValue, a_scriptInUse, a_stack, a_inputCount, a_inputCoin, a_inputA, a_inputB, a_outputCount, a_outputAmount, a_outputScript, a_feeOf, a_putRow, a_parentOf, a_heightOf, a_chainWork, a_blockState, a_rewardAmount, a_rewardScript, a_blockSize, a_blockTransaction, a_laidBlock, S.1, S.2.1, S.2.2, a_poolRow, a_marked, a_queue) x := by
  have key : ∀ (d c fuel : Nat), c + d = 152 → d < fuel → wX_balance_5 post x f_stackSize f_transactions f_putCount f_blocks f_tip f_poolCount f_queueCount a_tokenCount a_tokenOp a_tokenValue a_scriptInUse a_stack a_inputCount a_inputCoin a_inputA a_inputB a_outputCount a_outputAmount a_outputScript a_feeOf a_putRow a_parentOf a_heightOf a_chainWork a_blockState a_rewardAmount a_rewardScript a_blockSize a_blockTransaction a_laidBlock S.1 S.2.1 S.2.2 a_poolRow a_marked a_queue fuel (bl_s (a_tokenCount, a_tokenOp, a_tokenValue, a_inputCount, a_inputCoin, a_inputA, a_inputB, a_outputCount, a_outputAmount, a_outputScript, a_parentOf, a_heightOf, a_rewardScript, a_blockSize, a_blockTransaction, a_feeOf, a_rewardAmount) S x c) (nI c) := by
    intro d
    induction d with
    | zero =>
      intro c fuel hc hf
      obtain ⟨fuel, rfl⟩ : ∃ q, fuel = q + 1 := ⟨fuel - 1, by omega⟩
      obtain rfl : c = 152 := by omega
      exact br_t (by decide) H
    | succ d ih =>
      intro c fuel hc hf
      obtain ⟨fuel, rfl⟩ : ∃ q, fuel = q + 1 := ⟨fuel - 1, by omega⟩
      have hnx := ih (c + 1) fuel (by omega) (by omega)
      rw [bl_s, bl_t] at hnx
      have ecc : (nI c).toNatClampNeg = c := pk_cl c
      refine pk_le 152 c (fun z => by omega) (fun z => ⟨pk_in c 152 (by omega), ?_⟩)
      rw [ecc]
      refine br_c (fun z1 => nm_r (nI_1 c) ?_) (fun z1 => ⟨pk_in c 152 (by omega), br_c (fun z2 => ?_) (fun z2 => nm_r (nI_1 c) ?_)⟩)
      · rw [if_neg (fun q => absurd q.1 (Int32.not_le.mpr z1))] at hnx; exact hnx
      · have z1' : 0 ≤ S.1 c := Int32.not_lt.mp z1
        obtain ⟨_, so, sr⟩ := pd_sc_eq w (I.2.2.2.1 c (by omega) z1')
        have es : (if c < 120 then a_outputScript c else a_rewardScript (c - 120)) = nI (pd_sc (a_tokenCount, a_tokenOp, a_tokenValue, a_inputCount, a_inputCoin, a_inputA, a_inputB, a_outputCount, a_outputAmount, a_outputScript, a_parentOf, a_heightOf, a_rewardScript, a_blockSize, a_blockTransaction, a_feeOf, a_rewardAmount) c) := by
          by_cases z : c < 120
          · rw [if_pos z]; exact so z
          · rw [if_neg z]; exact sr (by omega)
        refine xm_scriptOf (by omega) ?_
        rw [es]
        refine br_c (fun z3 => xm_amountOf (by omega) (nm_e (nm_r (nI_1 c) ?_))) (fun z3 => nm_r (nI_1 c) ?_)
        · rw [if_pos ⟨z1', z2, z3⟩] at hnx; exact hnx
        · rw [if_neg (fun q => z3 q.2.2)] at hnx; exact hnx
      · rw [if_neg (fun q => z2 q.2.1)] at hnx; exact hnx
  exact ⟨153, key 152 0 153 (by omega) (by omega)⟩
end
section
variable {f_stackSize f_transactions f_putCount f_blocks f_tip f_poolCount f_queueCount : Int32} {a_tokenCount a_tokenOp a_tokenValue a_scriptInUse a_stack a_inputCount a_inputCoin a_inputA a_inputB a_outputCount a_outputAmount a_outputScript a_feeOf a_putRow a_parentOf a_heightOf a_chainWork a_blockState a_rewardAmount a_rewardScript a_blockSize a_blockTransaction a_laidBlock a_coinHeight a_coinSpent a_transactionHeight a_poolRow a_marked a_queue : Nat → Int32}
variable {g_made g_blocks g_arrivals g_tip g_pooled g_chainLength : Int32} {b_op b_arg b_length b_ins b_inCoin b_inA b_inB b_outs b_amount b_lock b_parent b_work b_rewardLock b_height b_many b_holds b_delivered b_arrived b_pool b_chain b_from b_worth b_within b_spent b_stack b_again b_chosen gfe grw : Nat → Int32}
theorem ym_balance {made blocks : Nat} {S : pd_S} {x : Int32} (w : pd_wf (a_tokenCount, a_tokenOp, a_tokenValue, a_inputCount, a_inputCoin, a_inputA, a_inputB, a_outputCount, a_outputAmount, a_outputScript, a_parentOf, a_heightOf, a_rewardScript, a_blockSize, a_blockTransaction, a_feeOf, a_rewardAmount) made blocks) (ag : pd_ag (a_tokenCount, a_tokenOp, a_tokenValue, a_inputCount, a_inputCoin, a_inputA, a_inputB, a_outputCount, a_outputAmount, a_outputScript, a_parentOf, a_heightOf, a_rewardScript, a_blockSize, a_blockTransaction, a_feeOf, a_rewardAmount) (b_length, b_op, b_arg, b_ins, b_inCoin, b_inA, b_inB, b_outs, b_amount, b_lock, b_parent, b_height, b_rewardLock, b_many, b_holds, gfe, grw) made blocks) (I : pd_inv (a_tokenCount, a_tokenOp, a_tokenValue, a_inputCount, a_inputCoin, a_inputA, a_inputB, a_outputCount, a_outputAmount, a_outputScript, a_parentOf, a_heightOf, a_rewardScript, a_blockSize, a_blockTransaction, a_feeOf, a_rewardAmount) made blocks S) (wr : pd_wor (b_length, b_op, b_arg, b_ins, b_inCoin, b_inA, b_inB, b_outs, b_amount, b_lock, b_parent, b_height, b_rewardLock, b_many, b_holds, gfe, grw) S.1 b_worth) {post : Int64 → SY → Prop} (H : post (bl_s (a_tokenCount, a_tokenOp, a_tokenValue, a_inputCount, a_inputCoin, a_inputA, a_inputB, a_outputCount, a_outputAmount, a_outputScript, a_parentOf, a_heightOf, a_rewardScript, a_blockSize, a_blockTransaction, a_feeOf, a_rewardAmount) S x 152) (g_made, g_blocks, g_arrivals, g_tip, g_pooled, g_chainLength, b_op, b_arg, b_length, b_ins, b_inCoin, b_inA, b_inB, b_outs, b_amount, b_lock, b_parent, b_work, b_rewardLock, b_height, b_many, b_holds, b_delivered, b_arrived, b_pool, b_chain, S.1, b_worth, S.2.2, S.2.1, b_stack, b_again, b_chosen)) : ∃ fuel, wY_balance_25 post x g_made g_blocks g_arrivals g_tip g_pooled g_chainLength b_op b_arg b_length b_ins b_inCoin b_inA b_inB b_outs b_amount b_lock b_parent b_work b_rewardLock b_height b_many b_holds b_delivered b_arrived b_pool b_chain S.1 b_worth S.2.2 S.2.1 b_stack b_again b_chosen fuel 0 0 := by
  have wE := pd_wf_ag w ag
  have key : ∀ (d c fuel : Nat), c + d = 152 → d < fuel → wY_balance_25 post x g_made g_blocks g_arrivals g_tip g_pooled g_chainLength b_op b_arg b_length b_ins b_inCoin b_inA b_inB b_outs b_amount b_lock b_parent b_work b_rewardLock b_height b_many b_holds b_delivered b_arrived b_pool b_chain S.1 b_worth S.2.2 S.2.1 b_stack b_again b_chosen fuel (bl_s (a_tokenCount, a_tokenOp, a_tokenValue, a_inputCount, a_inputCoin, a_inputA, a_inputB, a_outputCount, a_outputAmount, a_outputScript, a_parentOf, a_heightOf, a_rewardScript, a_blockSize, a_blockTransaction, a_feeOf, a_rewardAmount) S x c) (nI c) := by
    intro d
    induction d with
    | zero =>
      intro c fuel hc hf
      obtain ⟨fuel, rfl⟩ : ∃ q, fuel = q + 1 := ⟨fuel - 1, by omega⟩
      obtain rfl : c = 152 := by omega
      exact br_t (by decide) H
    | succ d ih =>
      intro c fuel hc hf
      obtain ⟨fuel, rfl⟩ : ∃ q, fuel = q + 1 := ⟨fuel - 1, by omega⟩
      have hnx := ih (c + 1) fuel (by omega) (by omega)
      rw [bl_s, bl_t] at hnx
      have ecc : (nI c).toNatClampNeg = c := pk_cl c
      have m60 : ∀ z0 : Int32, (0 ≤ S.1 c → z0 = nI (pd_sc (a_tokenCount, a_tokenOp, a_tokenValue, a_inputCount, a_inputCoin, a_inputA, a_inputB, a_outputCount, a_outputAmount, a_outputScript, a_parentOf, a_heightOf, a_rewardScript, a_blockSize, a_blockTransaction, a_feeOf, a_rewardAmount) c)) → wY_balance_60 post (wY_balance_25 post x g_made g_blocks g_arrivals g_tip g_pooled g_chainLength b_op b_arg b_length b_ins b_inCoin b_inA b_inB b_outs b_amount b_lock b_parent b_work b_rewardLock b_height b_many b_holds b_delivered b_arrived b_pool b_chain S.1 b_worth S.2.2 S.2.1 b_stack b_again b_chosen fuel) x (bl_s (a_tokenCount, a_tokenOp, a_tokenValue, a_inputCount, a_inputCoin, a_inputA, a_inputB, a_outputCount, a_outputAmount, a_outputScript, a_parentOf, a_heightOf, a_rewardScript, a_blockSize, a_blockTransaction, a_feeOf, a_rewardAmount) S x c) (nI c) z0 g_made g_blocks g_arrivals g_tip g_pooled g_chainLength b_op b_arg b_length b_ins b_inCoin b_inA b_inB b_outs b_amount b_lock b_parent b_work b_rewardLock b_height b_many b_holds b_delivered b_arrived b_pool b_chain S.1 b_worth S.2.2 S.2.1 b_stack b_again b_chosen := by
        intro z0 hz0
        refine ⟨pk_in c 152 (by omega), ?_⟩
        rw [ecc]
        refine br_c (fun z1 => nm_r (nI_1 c) ?_) (fun z1 => ⟨pk_in c 152 (by omega), br_c (fun z2 => br_c (fun z3 => ⟨pk_in c 152 (by omega), nm_e (nm_r (nI_1 c) ?_)⟩) (fun z3 => nm_r (nI_1 c) ?_)) (fun z2 => nm_r (nI_1 c) ?_)⟩)
        · rw [if_neg (fun q => absurd q.1 (Int32.not_le.mpr z1))] at hnx; exact hnx
        · have z1' : 0 ≤ S.1 c := Int32.not_lt.mp z1
          rw [hz0 z1'] at z3
          rw [if_pos ⟨z1', z2, z3⟩] at hnx
          rw [wr c (by omega) z1', pd_ag_amt ag (I.2.2.2.1 c (by omega) z1')]
          exact hnx
        · have z1' : 0 ≤ S.1 c := Int32.not_lt.mp z1
          rw [hz0 z1'] at z3
          rw [if_neg (fun q => z3 q.2.2)] at hnx; exact hnx
        · rw [if_neg (fun q => z2 q.2.1)] at hnx; exact hnx
      have hsc : 0 ≤ S.1 c → pd_sc (a_tokenCount, a_tokenOp, a_tokenValue, a_inputCount, a_inputCoin, a_inputA, a_inputB, a_outputCount, a_outputAmount, a_outputScript, a_parentOf, a_heightOf, a_rewardScript, a_blockSize, a_blockTransaction, a_feeOf, a_rewardAmount) c < 8 ∧ (c < 120 → b_lock c = nI (pd_sc (a_tokenCount, a_tokenOp, a_tokenValue, a_inputCount, a_inputCoin, a_inputA, a_inputB, a_outputCount, a_outputAmount, a_outputScript, a_parentOf, a_heightOf, a_rewardScript, a_blockSize, a_blockTransaction, a_feeOf, a_rewardAmount) c)) ∧ (120 ≤ c → b_rewardLock (c - 120) = nI (pd_sc (a_tokenCount, a_tokenOp, a_tokenValue, a_inputCount, a_inputCoin, a_inputA, a_inputB, a_outputCount, a_outputAmount, a_outputScript, a_parentOf, a_heightOf, a_rewardScript, a_blockSize, a_blockTransaction, a_feeOf, a_rewardAmount) c)) := by
        intro z1
        have hq := I.2.2.2.1 c (by omega) z1
        have := pd_sc_eq wE ((pd_ag_coin ag (Nat.le_refl _)).mpr hq)
        rw [pd_ag_sc w ag hq] at this
        exact this
      refine pk_le 152 c (fun z => by omega) (fun z => pk_le 120 c (fun z1 => ?_) (fun z1 => ⟨pk_in c 123 (by omega), ?_⟩))
      · have ex : nI c - 120 = nI (c - 120) := pk_sub (b := 120) z1
        refine ⟨pk_in (c - 120) 33 (by omega) ex, ?_⟩
        rw [pk_cl (c - 120) ex]
        exact m60 _ fun q => (hsc q).2.2 z1
      · rw [ecc]
        exact m60 _ fun q => (hsc q).2.1 z1
  exact ⟨153, key 152 0 153 (by omega) (by omega)⟩
end
theorem i_vc_balance {k : Nat} {u : SX} {v : SY} (I : i_Rel k u v) (hk : k + 4 ≤ 2048) (v1 : Int32) : wpX_balance (fun r => wpY_balance (fun r' v' => r' = r ∧ i_Rel (k + 4) u v') v v1) u v1 := by
  obtain ⟨f_stackSize, f_transactions, f_putCount, f_blocks, f_tip, f_poolCount, f_queueCount, a_tokenCount, a_tokenOp, a_tokenValue, a_scriptInUse, a_stack, a_inputCount, a_inputCoin, a_inputA, a_inputB, a_outputCount, a_outputAmount, a_outputScript, a_feeOf, a_putRow, a_parentOf, a_heightOf, a_chainWork, a_blockState, a_rewardAmount, a_rewardScript, a_blockSize, a_blockTransaction, a_laidBlock, a_coinHeight, a_coinSpent, a_transactionHeight, a_poolRow, a_marked, a_queue⟩ := u
  obtain ⟨g_made, g_blocks, g_arrivals, g_tip, g_pooled, g_chainLength, b_op, b_arg, b_length, b_ins, b_inCoin, b_inA, b_inB, b_outs, b_amount, b_lock, b_parent, b_work, b_rewardLock, b_height, b_many, b_holds, b_delivered, b_arrived, b_pool, b_chain, b_from, b_worth, b_within, b_spent, b_stack, b_again, b_chosen⟩ := v
  have I' := I
  obtain ⟨made, blocks, tp, n, np, pc, ar, ⟨rfl, rfl, rfl, rfl, rfl⟩, ⟨rfl, rfl, rfl, rfl, rfl⟩, ⟨rfl, rfl, rfl, rfl⟩, ⟨rfl, rfl, rfl⟩, ST, B, RD, ⟨eh, hn⟩, hl, P, hS⟩ := I
  obtain ⟨tk, w, ag, fq, rq, hp0, us, df, pu, fr⟩ := ST
  have htp := B.2.2.2.2.2.1.1
  have hI := pd_inv_lay w n tp htp eh hn
  refine xm_balance w hI ?_
  have bad : (v1 < 0 ∨ nI 8 ≤ v1) → bl_s (a_tokenCount, a_tokenOp, a_tokenValue, a_inputCount, a_inputCoin, a_inputA, a_inputB, a_outputCount, a_outputAmount, a_outputScript, a_parentOf, a_heightOf, a_rewardScript, a_blockSize, a_blockTransaction, a_feeOf, a_rewardAmount) (pd_lay (a_tokenCount, a_tokenOp, a_tokenValue, a_inputCount, a_inputCoin, a_inputA, a_inputB, a_outputCount, a_outputAmount, a_outputScript, a_parentOf, a_heightOf, a_rewardScript, a_blockSize, a_blockTransaction, a_feeOf, a_rewardAmount) n tp) v1 152 = 0 := fun h => bl_0 w hI h 152 (Nat.le_refl _)
  rcases pk_ix v1 (n := 8) (by omega) with h | h | ⟨j, hj, rfl⟩
  · rw [bad (Or.inl h)]
    exact br_t h (br_t rfl ⟨rfl, I'⟩)
  · have h0 : ¬ v1 < 0 := Int32.not_lt.mpr (Int32.le_trans (by decide) h)
    rw [bad (Or.inr h)]
    exact br_f h0 (br_t h (br_t rfl ⟨rfl, I'⟩))
  · refine br_f (nI_pos (by omega)) (br_f (nI_ge (b := 8) hj (by omega)) (br_f (by decide) ?_))
    refine ry_tip (gfe := a_feeOf) (grw := a_rewardAmount) w ag tk fq rq htp eh hn B.2.2.2.2.2.1.2.2.2 _ hS fun wo st ch hw hc => ?_
    exact ym_balance w ag hI hw ⟨rfl, rl_scr I' _ (pd_inv_out hI) wo ch st _ _ _⟩
end
section
/-! how the relation outlives a change of what is not made yet -/
theorem pd_used_ag {D E : pd_D} {made blocks s : Nat} (a : pd_ag D E made blocks) : pd_used E made blocks s ↔ pd_used D made blocks s := by
  unfold pd_used
  refine or_congr (exists_congr fun b => and_congr_right fun hb => ?_) (exists_congr fun t => exists_congr fun o => and_congr_right fun ht => ?_)
  · rw [(a.2.1 b hb).2.1]
  · obtain ⟨_, e2, _, _, e5⟩ := a.1 t ht
    rw [e2]
    refine and_congr_right fun ho => ?_
    rw [(e5 o ho).2]
theorem cn_one_ag {D E : pd_D} {made blocks ar b : Nat} {st dl av : pd_F} (w : pd_wf D made blocks) (a : pd_ag D E made blocks) (hb : b < blocks) (h : cn_one D st dl av ar b) : cn_one E st dl av ar b := by
  rcases h with h | h | ⟨h1, h2, h3, h4⟩
  · exact Or.inl h
  · exact Or.inr (Or.inl h)
  · refine Or.inr (Or.inr ⟨h1, h2, fun h0 => ?_, ?_⟩)
    · rw [(a.2.1 b hb).2.2.2.2.1 h0]; exact h3 h0
    · rw [pd_ag_va w a hb]; exact h4
theorem cn_blk_ag {D E : pd_D} {made blocks ar tp x : Nat} {st dl av cw wk : pd_F} (w : pd_wf D made blocks) (a : pd_ag D E made blocks) (B : cn_blk D st dl av cw wk blocks ar tp x) : cn_blk E st dl av cw wk blocks ar tp x := by
  obtain ⟨B1, B2, B3, B4, B5, ⟨T1, T2, T3, T4⟩, B7, B8⟩ := B
  exact ⟨fun b hb hx => cn_one_ag w a hb (B1 b hb hx), B2, B3, B4, cn_wrk_ag a B5, ⟨T1, T2, T3, (pd_ag_va w a T1).mpr T4⟩, fun b hb hT b0 vb => B7 b hb hT b0 ((pd_ag_va w a hb).mp vb), B8⟩
theorem cn_rdy_ag {D E : pd_D} {made blocks : Nat} {dl av : pd_F} (a : pd_ag D E made blocks) (h : cn_rdy D dl av blocks) : cn_rdy E dl av blocks := by
  intro b h0 hb e1 e2
  rw [(a.2.1 b hb).2.2.2.2.1 h0]
  exact h b h0 hb e1 e2
theorem pd_pool_ag {D E : pd_D} {made blocks np : Nat} {S : pd_S} {pl : pd_F} (a : pd_ag D E made blocks) (P : pd_pool D S made pl np) : pd_pool E S made pl np := by
  refine ⟨P.1, fun k hk => ?_⟩
  obtain ⟨t, h1, h2, h3, h4, h5⟩ := P.2 k hk
  obtain ⟨e1, _, _, e4, _⟩ := a.1 t h1
  refine ⟨t, h1, h2, h3, fun i hi => ?_, h5⟩
  rw [e1] at hi
  rw [(e4 i hi).1]
  exact h4 i hi
theorem pd_pool_mono {D : pd_D} {made made' np : Nat} {S : pd_S} {pl : pd_F} (h : made ≤ made') (P : pd_pool D S made pl np) : pd_pool D S made' pl np := by
  refine ⟨P.1, fun k hk => ?_⟩
  obtain ⟨t, h1, h2⟩ := P.2 k hk
  exact ⟨t, by omega, h2⟩
theorem cn_used_ag {D E : pd_D} {made blocks : Nat} {use : pd_F} (a : pd_ag D E made blocks) (h : cn_used D use made blocks) : cn_used E use made blocks := by
  intro s hs
  rw [pd_used_ag a]
  exact h s hs
section
variable {f_stackSize f_transactions f_putCount f_blocks f_tip f_poolCount f_queueCount : Int32} {a_tokenCount a_tokenOp a_tokenValue a_scriptInUse a_stack a_inputCount a_inputCoin a_inputA a_inputB a_outputCount a_outputAmount a_outputScript a_feeOf a_putRow a_parentOf a_heightOf a_chainWork a_blockState a_rewardAmount a_rewardScript a_blockSize a_blockTransaction a_laidBlock a_coinHeight a_coinSpent a_transactionHeight a_poolRow a_marked a_queue : Nat → Int32}
variable {g_made g_blocks g_arrivals g_tip g_pooled g_chainLength : Int32} {b_op b_arg b_length b_ins b_inCoin b_inA b_inB b_outs b_amount b_lock b_parent b_work b_rewardLock b_height b_many b_holds b_delivered b_arrived b_pool b_chain b_from b_worth b_within b_spent b_stack b_again b_chosen gfe grw : Nat → Int32}
/-- the relation anew: D is the old data, the made and the blocks are as before -/
theorem rl_mk {D : pd_D} {k made blocks tp n np pc ar : Nat} (w : pd_wf D made blocks) (a : pd_ag D (a_tokenCount, a_tokenOp, a_tokenValue, a_inputCount, a_inputCoin, a_inputA, a_inputB, a_outputCount, a_outputAmount, a_outputScript, a_parentOf, a_heightOf, a_rewardScript, a_blockSize, a_blockTransaction, a_feeOf, a_rewardAmount) made blocks)
    (tk : fx_tok a_tokenCount a_tokenOp a_tokenValue) (aE : pd_ag (a_tokenCount, a_tokenOp, a_tokenValue, a_inputCount, a_inputCoin, a_inputA, a_inputB, a_outputCount, a_outputAmount, a_outputScript, a_parentOf, a_heightOf, a_rewardScript, a_blockSize, a_blockTransaction, a_feeOf, a_rewardAmount) (a_tokenCount, a_tokenOp, a_tokenValue, b_ins, b_inCoin, b_inA, b_inB, b_outs, b_amount, b_lock, b_parent, b_height, b_rewardLock, b_many, b_holds, a_feeOf, a_rewardAmount) made blocks) (fq : pd_feq D made) (rq : pd_req D blocks) (hp0 : b_parent 0 = -1) (us : cn_used D a_scriptInUse made blocks)
    (df : cn_drf (a_tokenCount, a_tokenOp, a_tokenValue, a_inputCount, a_inputCoin, a_inputA, a_inputB, a_outputCount, a_outputAmount, a_outputScript, a_parentOf, a_heightOf, a_rewardScript, a_blockSize, a_blockTransaction, a_feeOf, a_rewardAmount) (a_tokenCount, a_tokenOp, a_tokenValue, b_ins, b_inCoin, b_inA, b_inB, b_outs, b_amount, b_lock, b_parent, b_height, b_rewardLock, b_many, b_holds, a_feeOf, a_rewardAmount) made blocks) (pu : cn_put (a_tokenCount, a_tokenOp, a_tokenValue, a_inputCount, a_inputCoin, a_inputA, a_inputB, a_outputCount, a_outputAmount, a_outputScript, a_parentOf, a_heightOf, a_rewardScript, a_blockSize, a_blockTransaction, a_feeOf, a_rewardAmount) (a_tokenCount, a_tokenOp, a_tokenValue, b_ins, b_inCoin, b_inA, b_inB, b_outs, b_amount, b_lock, b_parent, b_height, b_rewardLock, b_many, b_holds, a_feeOf, a_rewardAmount) a_putRow made pc) (fr : cn_fre (a_tokenCount, a_tokenOp, a_tokenValue, a_inputCount, a_inputCoin, a_inputA, a_inputB, a_outputCount, a_outputAmount, a_outputScript, a_parentOf, a_heightOf, a_rewardScript, a_blockSize, a_blockTransaction, a_feeOf, a_rewardAmount) blocks)
    (B : cn_blk D a_blockState b_delivered b_arrived a_chainWork b_work blocks ar tp 99) (RD : cn_rdy D b_delivered b_arrived blocks) (eh : pd_he D tp = nI n) (hn : n < 32) (hl : ∀ h, h ≤ n → a_laidBlock h = nI (pd_anc D tp (n - h))) (P : pd_pool D (pd_lay D n tp) made a_poolRow np) (hS : pd_out (b_from, b_spent, b_within)) :
    i_Rel k (f_stackSize, nI made, nI pc, nI blocks, nI tp, nI np, f_queueCount, a_tokenCount, a_tokenOp, a_tokenValue, a_scriptInUse, a_stack, a_inputCount, a_inputCoin, a_inputA, a_inputB, a_outputCount, a_outputAmount, a_outputScript, a_feeOf, a_putRow, a_parentOf, a_heightOf, a_chainWork, a_blockState, a_rewardAmount, a_rewardScript, a_blockSize, a_blockTransaction, a_laidBlock, (pd_lay D n tp).1, (pd_lay D n tp).2.1, (pd_lay D n tp).2.2, a_poolRow, a_marked, a_queue) (nI made, nI blocks, nI ar, nI tp, nI np, g_chainLength, a_tokenOp, a_tokenValue, a_tokenCount, b_ins, b_inCoin, b_inA, b_inB, b_outs, b_amount, b_lock, b_parent, b_work, b_rewardLock, b_height, b_many, b_holds, b_delivered, b_arrived, a_poolRow, b_chain, b_from, b_worth, b_within, b_spent, b_stack, b_again, b_chosen) := by
  have htp := B.2.2.2.2.2.1.1
  have el := pd_ag_lay w a n tp htp eh hn
  refine ⟨made, blocks, tp, n, np, pc, ar, ⟨rfl, rfl, rfl, rfl, rfl⟩, ⟨rfl, rfl, rfl, rfl, rfl⟩, ⟨rfl, rfl, rfl, rfl⟩, ⟨by rw [el], by rw [el], by rw [el]⟩, ⟨tk, pd_wf_ag w a, aE, pd_feq_ag w a fq, pd_req_ag w a rq, hp0, cn_used_ag a us, df, pu, fr⟩, cn_blk_ag w a B, cn_rdy_ag a RD, ⟨((a.2.1 tp htp).1).trans eh, hn⟩, fun h hh => ?_, ?_, hS⟩
  · rw [hl h hh, (pd_ag_anc w a htp eh hn (n - h) (by omega)).1]
  · rw [el]; exact pd_pool_ag a P
end
/-! ### Y: is a script in use -/
section
variable {g_made g_blocks g_arrivals g_tip g_pooled g_chainLength : Int32} {b_op b_arg b_length b_ins b_inCoin b_inA b_inB b_outs b_amount b_lock b_parent b_work b_rewardLock b_height b_many b_holds b_delivered b_arrived b_pool b_chain b_from b_worth b_within b_spent b_stack b_again b_chosen gfe grw : Nat → Int32}
theorem yq_used {made blocks : Nat} (w : pd_wf (b_length, b_op, b_arg, b_ins, b_inCoin, b_inA, b_inB, b_outs, b_amount, b_lock, b_parent, b_height, b_rewardLock, b_many, b_holds, gfe, grw) made blocks) (em : g_made = nI made) (eb : g_blocks = nI blocks) {s : Nat} (hs : s < 8) {post : Int32 → Prop} (H1 : pd_used (b_length, b_op, b_arg, b_ins, b_inCoin, b_inA, b_inB, b_outs, b_amount, b_lock, b_parent, b_height, b_rewardLock, b_many, b_holds, gfe, grw) made blocks s → post 1) (H0 : ¬ pd_used (b_length, b_op, b_arg, b_ins, b_inCoin, b_inA, b_inB, b_outs, b_amount, b_lock, b_parent, b_height, b_rewardLock, b_many, b_holds, gfe, grw) made blocks s → post 0) : wpY_isUsed post (g_made, g_blocks, g_arrivals, g_tip, g_pooled, g_chainLength, b_op, b_arg, b_length, b_ins, b_inCoin, b_inA, b_inB, b_outs, b_amount, b_lock, b_parent, b_work, b_rewardLock, b_height, b_many, b_holds, b_delivered, b_arrived, b_pool, b_chain, b_from, b_worth, b_within, b_spent, b_stack, b_again, b_chosen) (nI s) := by
  have hm := w.2.2.1
  have hbk := w.2.1
  subst em eb
  have L42 : ∀ (J : Int32 → Prop) (t m : Nat), t < made → b_outs t = nI m → m ≤ 3 → ((∀ o, o < m → b_lock (3 * t + o) ≠ nI s) → J (nI (t + 1))) → ∀ (d i fuel : Nat), i + d = m → d < fuel → (∀ o, o < i → b_lock (3 * t + o) ≠ nI s) → wY_isUsed_42 post J (nI s) (nI t) (nI made) (nI blocks) g_arrivals g_tip g_pooled g_chainLength b_op b_arg b_length b_ins b_inCoin b_inA b_inB b_outs b_amount b_lock b_parent b_work b_rewardLock b_height b_many b_holds b_delivered b_arrived b_pool b_chain b_from b_worth b_within b_spent b_stack b_again b_chosen fuel (nI (3 * t + i)) := by
    intro J t m ht em hm3 HJ d
    have e3 : 3 * nI t + b_outs (nI t).toNatClampNeg = nI (3 * t + m) := by rw [pk_cl t, em]; exact yb_3 t m
    have emc : (b_outs t).toNatClampNeg = m := pd_cl em (by omega)
    induction d with
    | zero =>
      intro i fuel hi hf hno
      obtain ⟨fuel, rfl⟩ : ∃ q, fuel = q + 1 := ⟨fuel - 1, by omega⟩
      obtain rfl : i = m := by omega
      exact ⟨pk_in t 41 (by omega), br_t (by rw [e3]; exact nI_le (Nat.le_refl _) (by omega)) (nm_r (nI_1 t) (HJ hno))⟩
    | succ d ih =>
      intro i fuel hi hf hno
      obtain ⟨fuel, rfl⟩ : ∃ q, fuel = q + 1 := ⟨fuel - 1, by omega⟩
      refine ⟨pk_in t 41 (by omega), pk_le (3 * t + m) (3 * t + i) (fun z => by omega) (fun z => ⟨pk_in (3 * t + i) 123 (by omega), ?_⟩) e3⟩
      rw [pk_cl (x := nI (3 * t + i)) (3 * t + i)]
      refine br_c (fun q => H1 (Or.inr ⟨t, i, ht, by show i < (b_outs t).toNatClampNeg; omega, q⟩)) (fun q => nm_r (nI_1 (3 * t + i)) (ih (i + 1) fuel (by omega) (by omega) fun o ho => ?_))
      by_cases e : o = i
      · rw [e]; exact q
      · exact hno o (by omega)
  have L30 : ∀ (d t fuel : Nat), t + d = made → d < fuel → (¬ ∃ b, b < blocks ∧ b_rewardLock b = nI s) → (∀ t', t' < t → ∀ o, o < (b_outs t').toNatClampNeg → b_lock (3 * t' + o) ≠ nI s) → wY_isUsed_30 post (nI s) (nI made) (nI blocks) g_arrivals g_tip g_pooled g_chainLength b_op b_arg b_length b_ins b_inCoin b_inA b_inB b_outs b_amount b_lock b_parent b_work b_rewardLock b_height b_many b_holds b_delivered b_arrived b_pool b_chain b_from b_worth b_within b_spent b_stack b_again b_chosen fuel (nI t) := by
    intro d
    induction d with
    | zero =>
      intro t fuel ht hf hb hno
      obtain ⟨fuel, rfl⟩ : ∃ q, fuel = q + 1 := ⟨fuel - 1, by omega⟩
      obtain rfl : t = made := by omega
      refine br_t (nI_le (Nat.le_refl _) (by omega)) (H0 fun q => ?_)
      rcases q with q | ⟨t', o, h1, h2, h3⟩
      · exact hb q
      · exact hno t' h1 o h2 h3
    | succ d ih =>
      intro t fuel ht hf hb hno
      obtain ⟨fuel, rfl⟩ : ∃ q, fuel = q + 1 := ⟨fuel - 1, by omega⟩
      obtain ⟨_, m, _, _, _, hm3, _, em, _⟩ := w.2.2.2.2.1 t (by omega)
      have em' : b_outs t = nI m := em
      have emc : (b_outs t).toNatClampNeg = m := pd_cl em' (by omega)
      refine pk_le made t (fun z => by omega) (fun z => nm_r (yb_30 t) ⟨m + 1, L42 _ t m (by omega) em' hm3 (fun q => ih (t + 1) fuel (by omega) (by omega) hb fun t' ht' o ho => ?_) m 0 (m + 1) (by omega) (by omega) (fun o ho => by omega)⟩)
      by_cases e : t' = t
      · subst e; exact q o (by omega)
      · exact hno t' (by omega) o ho
  have L2 : ∀ (d b fuel : Nat), b + d = blocks → d < fuel → (∀ b', b' < b → b_rewardLock b' ≠ nI s) → wY_isUsed_2 post (nI s) (nI made) (nI blocks) g_arrivals g_tip g_pooled g_chainLength b_op b_arg b_length b_ins b_inCoin b_inA b_inB b_outs b_amount b_lock b_parent b_work b_rewardLock b_height b_many b_holds b_delivered b_arrived b_pool b_chain b_from b_worth b_within b_spent b_stack b_again b_chosen fuel (nI b) := by
    intro d
    induction d with
    | zero =>
      intro b fuel hb hf hno
      obtain ⟨fuel, rfl⟩ : ∃ q, fuel = q + 1 := ⟨fuel - 1, by omega⟩
      obtain rfl : b = blocks := by omega
      exact br_t (nI_le (Nat.le_refl _) (by omega)) ⟨made + 1, L30 made 0 (made + 1) (by omega) (by omega) (fun ⟨b', h1, h2⟩ => hno b' h1 h2) (fun t' h => by omega)⟩
    | succ d ih =>
      intro b fuel hb hf hno
      obtain ⟨fuel, rfl⟩ : ∃ q, fuel = q + 1 := ⟨fuel - 1, by omega⟩
      refine pk_le blocks b (fun z => by omega) (fun z => ⟨pk_in b 33 (by omega), ?_⟩)
      rw [pk_cl b]
      refine br_c (fun q => H1 (Or.inl ⟨b, by omega, q⟩)) (fun q => nm_r (nI_1 b) (ih (b + 1) fuel (by omega) (by omega) fun b' hb' => ?_))
      by_cases e : b' = b
      · rw [e]; exact q
      · exact hno b' (by omega)
  exact ⟨blocks + 1, L2 blocks 0 (blocks + 1) (by omega) (by omega) (fun b' h => by omega)⟩
end
end
section
/-! token -/
theorem yq_in {x : Int32} {n : Nat} (hn : n < 2 ^ 31) {post : Int32 → Prop} (H0 : (x < 0 ∨ nI n ≤ x) → post 0) (H1 : ∀ j, j < n → x = nI j → post 1) : wpY_in post x (nI n) := rl_in hn H0 H1
theorem i_vc_token {k : Nat} {u : SX} {v : SY} (I : i_Rel k u v) (hk : k + 4 ≤ 2048) (v1 : Int32) (v2 : Int32) (v3 : Int32) : wpX_token (fun r u' => wpY_token (fun r' v' => r' = r ∧ i_Rel (k + 4) u' v') v v1 v2 v3) u v1 v2 v3 := by
  obtain ⟨f_stackSize, f_transactions, f_putCount, f_blocks, f_tip, f_poolCount, f_queueCount, a_tokenCount, a_tokenOp, a_tokenValue, a_scriptInUse, a_stack, a_inputCount, a_inputCoin, a_inputA, a_inputB, a_outputCount, a_outputAmount, a_outputScript, a_feeOf, a_putRow, a_parentOf, a_heightOf, a_chainWork, a_blockState, a_rewardAmount, a_rewardScript, a_blockSize, a_blockTransaction, a_laidBlock, a_coinHeight, a_coinSpent, a_transactionHeight, a_poolRow, a_marked, a_queue⟩ := u
  obtain ⟨g_made, g_blocks, g_arrivals, g_tip, g_pooled, g_chainLength, b_op, b_arg, b_length, b_ins, b_inCoin, b_inA, b_inB, b_outs, b_amount, b_lock, b_parent, b_work, b_rewardLock, b_height, b_many, b_holds, b_delivered, b_arrived, b_pool, b_chain, b_from, b_worth, b_within, b_spent, b_stack, b_again, b_chosen⟩ := v
  have I' := I
  obtain ⟨made, blocks, tp, n, np, pc, ar, ⟨rfl, rfl, rfl, rfl, rfl⟩, ⟨rfl, rfl, rfl, rfl, rfl⟩, ⟨rfl, rfl, rfl, rfl⟩, ⟨rfl, rfl, rfl⟩, ST, B, RD, ⟨eh, hn⟩, hl, P, hS⟩ := I
  obtain ⟨tk, w, ag, fq, rq, hp0, us, df, pu, fr⟩ := ST
  have wE := pd_wf_ag w ag
  rcases pk_ix v1 (n := 8) (by omega) with h | h | ⟨s, hs, rfl⟩
  · exact br_t h (br_t rfl (br_t h (br_t rfl ⟨rfl, I'⟩)))
  · have h0 : ¬ v1 < 0 := Int32.not_lt.mpr (Int32.le_trans (by decide) h)
    exact br_f h0 (br_t h (br_t rfl (br_f h0 (br_t h (br_t rfl ⟨rfl, I'⟩)))))
  have s0 : ¬ nI s < 0 := nI_pos (by omega)
  have s8 : ¬ (8 : Int32) ≤ nI s := nI_ge (b := 8) hs (by omega)
  have sc : (nI s).toNatClampNeg = s := pk_cl s
  refine br_f s0 (br_f s8 (br_f (by decide) ?_))
  rcases pk_ix v2 (n := 13) (by omega) with h | h | ⟨o, ho, rfl⟩
  · exact br_t h (br_f s0 (br_f s8 (br_f (by decide) (br_t h (br_t rfl ⟨rfl, I'⟩)))))
  · have h0 : ¬ v2 < 0 := Int32.not_lt.mpr (Int32.le_trans (by decide) h)
    have h12 : 12 < v2 := by
      rw [Int32.lt_iff_toInt_lt]
      have := Int32.le_iff_toInt_le.mp h
      rw [show (nI 13).toInt = 13 from by decide] at this
      rw [show (12 : Int32).toInt = 12 from by decide]
      omega
    exact br_f h0 (br_t h12 (br_f s0 (br_f s8 (br_f (by decide) (br_f h0 (br_t h (br_t rfl ⟨rfl, I'⟩)))))))
  have o0 : ¬ nI o < 0 := nI_pos (by omega)
  have o12 : ¬ (12 : Int32) < nI o := nI_nlt (a := 12) (by omega) (by omega)
  have o13 : ¬ (13 : Int32) ≤ nI o := nI_ge (b := 13) ho (by omega)
  refine br_f o0 (br_f o12 ⟨pk_in s 8 hs, ?_⟩)
  rw [sc]
  -- Y once it has looked at op
  have Yuse : ∀ post : Int32 → SY → Prop, a_scriptInUse s = 1 → post (-1) (nI made, nI blocks, nI ar, nI tp, nI np, g_chainLength, a_tokenOp, a_tokenValue, a_tokenCount, b_ins, b_inCoin, b_inA, b_inB, b_outs, b_amount, b_lock, b_parent, b_work, b_rewardLock, b_height, b_many, b_holds, b_delivered, b_arrived, a_poolRow, b_chain, b_from, b_worth, b_within, b_spent, b_stack, b_again, b_chosen) → wpY_token post (nI made, nI blocks, nI ar, nI tp, nI np, g_chainLength, a_tokenOp, a_tokenValue, a_tokenCount, b_ins, b_inCoin, b_inA, b_inB, b_outs, b_amount, b_lock, b_parent, b_work, b_rewardLock, b_height, b_many, b_holds, b_delivered, b_arrived, a_poolRow, b_chain, b_from, b_worth, b_within, b_spent, b_stack, b_again, b_chosen) (nI s) (nI o) v3 := by
    intro post hu H
    have hused : pd_used (a_tokenCount, a_tokenOp, a_tokenValue, b_ins, b_inCoin, b_inA, b_inB, b_outs, b_amount, b_lock, b_parent, b_height, b_rewardLock, b_many, b_holds, a_feeOf, a_rewardAmount) made blocks s := by
      rw [pd_used_ag ag]
      rcases us s hs with h | h
      · rw [hu] at h; exact absurd h.1 (by decide)
      · exact h.2
    refine br_f s0 (br_f s8 (br_f (by decide) (br_f o0 (br_f o13 (br_f (by decide) (br_c (fun z => yq_in (n := 9) (by omega) (fun _ => br_t rfl H) (fun j hj e => br_f (by decide) (yq_used (gfe := a_feeOf) (grw := a_rewardAmount) wE rfl rfl hs (fun _ => br_f (by decide) H) (fun q => (q hused).elim)))) (fun z => yq_used (gfe := a_feeOf) (grw := a_rewardAmount) wE rfl rfl hs (fun _ => br_f (by decide) H) (fun q => (q hused).elim))))))))
  rcases us s hs with ⟨hu, hnu⟩ | ⟨hu, hus⟩
  rotate_left
  · exact br_f (by rw [hu]; decide) (Yuse _ hu ⟨rfl, I'⟩)
  refine br_t hu ?_
  have hnuE : ¬ pd_used (a_tokenCount, a_tokenOp, a_tokenValue, b_ins, b_inCoin, b_inA, b_inB, b_outs, b_amount, b_lock, b_parent, b_height, b_rewardLock, b_many, b_holds, a_feeOf, a_rewardAmount) made blocks s := fun q => hnu ((pd_used_ag ag).mp q)
  obtain ⟨L, hL, eL, htk⟩ := tk s hs
  have eLc : a_tokenCount (nI s).toNatClampNeg = nI L := by rw [sc]; exact eL
  have e8 : nI s * 8 + a_tokenCount (nI s).toNatClampNeg = nI (8 * s + L) := by rw [eLc, show (8 : Int32) = nI 8 from rfl, pk_mul, nI_add, Nat.mul_comm]
  have e8' : 8 * nI s + a_tokenCount (nI s).toNatClampNeg = nI (8 * s + L) := by rw [eLc, show (8 : Int32) = nI 8 from rfl, pk_mul, nI_add]
  -- both, once the int is allowed
  have main : (o = 12 → ∃ j, j ≤ 8 ∧ v3 = nI j) → wX_token_47 (fun r u' => wpY_token (fun r' v' => r' = r ∧ i_Rel (k + 4) u' v') (nI made, nI blocks, nI ar, nI tp, nI np, g_chainLength, a_tokenOp, a_tokenValue, a_tokenCount, b_ins, b_inCoin, b_inA, b_inB, b_outs, b_amount, b_lock, b_parent, b_work, b_rewardLock, b_height, b_many, b_holds, b_delivered, b_arrived, a_poolRow, b_chain, b_from, b_worth, b_within, b_spent, b_stack, b_again, b_chosen) (nI s) (nI o) v3) (nI s) (nI o) v3 f_stackSize (nI made) (nI pc) (nI blocks) (nI tp) (nI np) f_queueCount a_tokenCount a_tokenOp a_tokenValue a_scriptInUse a_stack a_inputCount a_inputCoin a_inputA a_inputB a_outputCount a_outputAmount a_outputScript a_feeOf a_putRow a_parentOf a_heightOf a_chainWork a_blockState a_rewardAmount a_rewardScript a_blockSize a_blockTransaction a_laidBlock ((pd_lay (a_tokenCount, a_tokenOp, a_tokenValue, a_inputCount, a_inputCoin, a_inputA, a_inputB, a_outputCount, a_outputAmount, a_outputScript, a_parentOf, a_heightOf, a_rewardScript, a_blockSize, a_blockTransaction, a_feeOf, a_rewardAmount) n tp).1) ((pd_lay (a_tokenCount, a_tokenOp, a_tokenValue, a_inputCount, a_inputCoin, a_inputA, a_inputB, a_outputCount, a_outputAmount, a_outputScript, a_parentOf, a_heightOf, a_rewardScript, a_blockSize, a_blockTransaction, a_feeOf, a_rewardAmount) n tp).2.1) ((pd_lay (a_tokenCount, a_tokenOp, a_tokenValue, a_inputCount, a_inputCoin, a_inputA, a_inputB, a_outputCount, a_outputAmount, a_outputScript, a_parentOf, a_heightOf, a_rewardScript, a_blockSize, a_blockTransaction, a_feeOf, a_rewardAmount) n tp).2.2) a_poolRow a_marked a_queue := by
    intro hv
    have goY : ∀ post : Int32 → SY → Prop, wY_token_33 post (nI s) (nI o) v3 (nI made) (nI blocks) (nI ar) (nI tp) (nI np) g_chainLength a_tokenOp a_tokenValue a_tokenCount b_ins b_inCoin b_inA b_inB b_outs b_amount b_lock b_parent b_work b_rewardLock b_height b_many b_holds b_delivered b_arrived a_poolRow b_chain b_from b_worth b_within b_spent b_stack b_again b_chosen → wpY_token post (nI made, nI blocks, nI ar, nI tp, nI np, g_chainLength, a_tokenOp, a_tokenValue, a_tokenCount, b_ins, b_inCoin, b_inA, b_inB, b_outs, b_amount, b_lock, b_parent, b_work, b_rewardLock, b_height, b_many, b_holds, b_delivered, b_arrived, a_poolRow, b_chain, b_from, b_worth, b_within, b_spent, b_stack, b_again, b_chosen) (nI s) (nI o) v3 := by
      intro post H
      refine br_f s0 (br_f s8 (br_f (by decide) (br_f o0 (br_f o13 (br_f (by decide) (pk_eq o 12 (fun z => ?_) (fun z => H)))))))
      obtain ⟨j, hj, rfl⟩ := hv z
      exact br_f (nI_pos (by omega)) (br_f (nI_ge (b := 9) (by omega) (by omega)) (br_f (by decide) H))
    refine ⟨pk_in s 8 hs, pk_eq L 8 (fun e => goY _ ?_) (fun e => ⟨pk_in s 8 hs, nm_r e8 ⟨pk_in (8 * s + L) 64 (by omega), nm_r (by rw [pk_cl (x := nI (8 * s + L)) (8 * s + L)]) ⟨pk_in (8 * s + L) 64 (by omega), nm_r (by rw [pk_cl (x := nI (8 * s + L)) (8 * s + L)]) ⟨pk_in s 8 hs, pk_in s 8 hs, nm_r (by rw [eLc, sc, nI_1]) ⟨pk_in s 8 hs, goY _ ?_⟩⟩⟩⟩⟩) eLc⟩
    · exact yq_used (gfe := a_feeOf) (grw := a_rewardAmount) wE rfl rfl hs (fun q => (hnuE q).elim) (fun _ => br_t rfl ⟨pk_in s 8 hs, br_t (by rw [eLc, e]; rfl) ⟨rfl, I'⟩⟩)
    · refine yq_used (gfe := a_feeOf) (grw := a_rewardAmount) wE rfl rfl hs (fun q => (hnuE q).elim) (fun _ => br_t rfl ⟨pk_in s 8 hs, br_f (by rw [eLc]; intro q; exact e ((nI_eq (b := 8) (by omega) (by omega)).mp q)) ⟨pk_in s 8 hs, nm_r e8' ⟨pk_in (8 * s + L) 64 (by omega), nm_r (by rw [pk_cl (x := nI (8 * s + L)) (8 * s + L)]) ⟨pk_in (8 * s + L) 64 (by omega), nm_r (by rw [pk_cl (x := nI (8 * s + L)) (8 * s + L)]) ⟨pk_in s 8 hs, pk_in s 8 hs, nm_r (by rw [eLc, sc, nI_1]) ⟨pk_in s 8 hs, ?_, ?_⟩⟩⟩⟩⟩⟩)
      · rw [sc]
      · refine rl_mk (D := (a_tokenCount, a_tokenOp, a_tokenValue, a_inputCount, a_inputCoin, a_inputA, a_inputB, a_outputCount, a_outputAmount, a_outputScript, a_parentOf, a_heightOf, a_rewardScript, a_blockSize, a_blockTransaction, a_feeOf, a_rewardAmount)) w ⟨fun t _ => ⟨rfl, rfl, rfl, fun _ _ => ⟨rfl, rfl, rfl⟩, fun _ _ => ⟨rfl, rfl⟩⟩, fun b _ => ⟨rfl, rfl, rfl, rfl, fun _ => rfl, fun _ _ => rfl⟩, fun s' hs' => ?_⟩ (fun s' hs' => ?_) ⟨ag.1, ag.2.1, fun s' _ => ⟨rfl, fun _ _ => ⟨rfl, rfl⟩⟩⟩ fq rq hp0 us df pu fr B RD eh hn hl P hS
        · have hne : s' ≠ s := fun e => hnu (e ▸ hs')
          refine ⟨pk_un hne, fun i hi => ?_⟩
          have hlt : 8 * s' + i ≠ 8 * s + L := by
            by_cases q : s' < 8
            · obtain ⟨L', hL', eL', _⟩ := tk s' q
              have : (a_tokenCount s').toNatClampNeg = L' := pd_cl eL' (by omega)
              have hi' : i < (a_tokenCount s').toNatClampNeg := hi
              omega
            · omega
          exact ⟨pk_un hlt, pk_un hlt⟩
        · by_cases e1 : s' = s
          · subst e1
            refine ⟨L + 1, by omega, pk_us, fun i hi => ?_⟩
            by_cases e2 : i = L
            · subst e2
              rw [pk_us, pk_us]
              exact ⟨o, by omega, rfl, hv⟩
            · rw [pk_un (by omega), pk_un (by omega)]
              exact htk i (by omega)
          · obtain ⟨L', hL', eL', h'⟩ := tk s' hs'
            refine ⟨L', hL', by rw [pk_un e1]; exact eL', fun i hi => ?_⟩
            rw [pk_un (by omega), pk_un (by omega)]
            exact h' i hi
  -- the int of a SKIP
  by_cases e12 : o = 12
  · subst e12
    refine br_t (by decide) ?_
    have Ybad : ∀ post : Int32 → SY → Prop, (v3 < 0 ∨ nI 9 ≤ v3) → post (-1) (nI made, nI blocks, nI ar, nI tp, nI np, g_chainLength, a_tokenOp, a_tokenValue, a_tokenCount, b_ins, b_inCoin, b_inA, b_inB, b_outs, b_amount, b_lock, b_parent, b_work, b_rewardLock, b_height, b_many, b_holds, b_delivered, b_arrived, a_poolRow, b_chain, b_from, b_worth, b_within, b_spent, b_stack, b_again, b_chosen) → wpY_token post (nI made, nI blocks, nI ar, nI tp, nI np, g_chainLength, a_tokenOp, a_tokenValue, a_tokenCount, b_ins, b_inCoin, b_inA, b_inB, b_outs, b_amount, b_lock, b_parent, b_work, b_rewardLock, b_height, b_many, b_holds, b_delivered, b_arrived, a_poolRow, b_chain, b_from, b_worth, b_within, b_spent, b_stack, b_again, b_chosen) (nI s) (nI 12) v3 := by
      intro post hv H
      refine br_f s0 (br_f s8 (br_f (by decide) (br_f o0 (br_f o13 (br_f (by decide) (br_t (by decide) (yq_in (n := 9) (by omega) (fun _ => br_t rfl H) (fun j hj e => ?_))))))))
      subst e
      rcases hv with q | q
      · exact (nI_pos (by omega) q).elim
      · exact (nI_ge hj (by omega) q).elim
    rcases pk_ix v3 (n := 9) (by omega) with h | h | ⟨j, hj, e⟩
    · exact br_t h (Ybad _ (Or.inl h) ⟨rfl, I'⟩)
    · have h0 : ¬ v3 < 0 := Int32.not_lt.mpr (Int32.le_trans (by decide) h)
      have h8 : ¬ v3 ≤ 8 := fun q => absurd (Int32.le_trans h q) (by decide)
      exact br_f h0 (br_f h8 (Ybad _ (Or.inr h) ⟨rfl, I'⟩))
    · have h0 : ¬ v3 < 0 := by rw [e]; exact nI_pos (by omega)
      have h8 : v3 ≤ 8 := by rw [e]; exact nI_le (b := 8) (by omega) (by omega)
      exact br_f h0 (br_t h8 (main fun _ => ⟨j, by omega, e⟩))
  · exact br_f (fun q => e12 ((nI_eq (b := 12) (by omega) (by omega)).mp q)) (main fun q => (e12 q).elim)
end
section
/-! input, output, put -/
theorem pd_ag_symm {D E : pd_D} {made blocks : Nat} (a : pd_ag D E made blocks) : pd_ag E D made blocks := by
  refine ⟨fun t ht => ?_, fun b hb => ?_, fun s hs => ?_⟩
  · obtain ⟨e1, e2, e3, e4, e5⟩ := a.1 t ht
    refine ⟨e1.symm, e2.symm, e3.symm, fun i hi => ?_, fun o ho => ?_⟩
    · rw [e1] at hi
      obtain ⟨q1, q2, q3⟩ := e4 i hi
      exact ⟨q1.symm, q2.symm, q3.symm⟩
    · rw [e2] at ho
      obtain ⟨q1, q2⟩ := e5 o ho
      exact ⟨q1.symm, q2.symm⟩
  · obtain ⟨e1, e2, e3, e4, e5, e6⟩ := a.2.1 b hb
    refine ⟨e1.symm, e2.symm, e3.symm, e4.symm, fun h => (e5 h).symm, fun i hi => ?_⟩
    rw [e3] at hi
    exact (e6 i hi).symm
  · rw [pd_used_ag a] at hs
    obtain ⟨e1, e2⟩ := a.2.2 s hs
    refine ⟨e1.symm, fun i hi => ?_⟩
    rw [e1] at hi
    obtain ⟨q1, q2⟩ := e2 i hi
    exact ⟨q1.symm, q2.symm⟩
theorem pd_ag_trans {D E F : pd_D} {made blocks : Nat} (a : pd_ag D E made blocks) (c : pd_ag E F made blocks) : pd_ag D F made blocks := by
  refine ⟨fun t ht => ?_, fun b hb => ?_, fun s hs => ?_⟩
  · obtain ⟨e1, e2, e3, e4, e5⟩ := a.1 t ht
    obtain ⟨f1, f2, f3, f4, f5⟩ := c.1 t ht
    rw [e1] at f4
    rw [e2] at f5
    refine ⟨f1.trans e1, f2.trans e2, f3.trans e3, fun i hi => ?_, fun o ho => ?_⟩
    · obtain ⟨q1, q2, q3⟩ := e4 i hi
      obtain ⟨r1, r2, r3⟩ := f4 i hi
      exact ⟨r1.trans q1, r2.trans q2, r3.trans q3⟩
    · obtain ⟨q1, q2⟩ := e5 o ho
      obtain ⟨r1, r2⟩ := f5 o ho
      exact ⟨r1.trans q1, r2.trans q2⟩
  · obtain ⟨e1, e2, e3, e4, e5, e6⟩ := a.2.1 b hb
    obtain ⟨f1, f2, f3, f4, f5, f6⟩ := c.2.1 b hb
    rw [e3] at f6
    exact ⟨f1.trans e1, f2.trans e2, f3.trans e3, f4.trans e4, fun h => (f5 h).trans (e5 h), fun i hi => (f6 i hi).trans (e6 i hi)⟩
  · obtain ⟨e1, e2⟩ := a.2.2 s hs
    obtain ⟨f1, f2⟩ := c.2.2 s ((pd_used_ag a).mpr hs)
    rw [e1] at f2
    refine ⟨f1.trans e1, fun i hi => ?_⟩
    obtain ⟨q1, q2⟩ := e2 i hi
    obtain ⟨r1, r2⟩ := f2 i hi
    exact ⟨r1.trans q1, r2.trans q2⟩
section
variable {f_stackSize f_transactions f_putCount f_blocks f_tip f_poolCount f_queueCount : Int32} {a_tokenCount a_tokenOp a_tokenValue a_scriptInUse a_stack a_inputCount a_inputCoin a_inputA a_inputB a_outputCount a_outputAmount a_outputScript a_feeOf a_putRow a_parentOf a_heightOf a_chainWork a_blockState a_rewardAmount a_rewardScript a_blockSize a_blockTransaction a_laidBlock a_coinHeight a_coinSpent a_transactionHeight a_poolRow a_marked a_queue : Nat → Int32}
theorem ag_inp {made blocks tt p : Nat} {x y z q : Int32} (w : pd_wf (a_tokenCount, a_tokenOp, a_tokenValue, a_inputCount, a_inputCoin, a_inputA, a_inputB, a_outputCount, a_outputAmount, a_outputScript, a_parentOf, a_heightOf, a_rewardScript, a_blockSize, a_blockTransaction, a_feeOf, a_rewardAmount) made blocks) (h1 : made ≤ tt) (h2 : 3 * made ≤ p) : pd_ag (a_tokenCount, a_tokenOp, a_tokenValue, a_inputCount, a_inputCoin, a_inputA, a_inputB, a_outputCount, a_outputAmount, a_outputScript, a_parentOf, a_heightOf, a_rewardScript, a_blockSize, a_blockTransaction, a_feeOf, a_rewardAmount) (a_tokenCount, a_tokenOp, a_tokenValue, upd a_inputCount tt x, upd a_inputCoin p y, upd a_inputA p z, upd a_inputB p q, a_outputCount, a_outputAmount, a_outputScript, a_parentOf, a_heightOf, a_rewardScript, a_blockSize, a_blockTransaction, a_feeOf, a_rewardAmount) made blocks := by
  refine ⟨fun t ht => ⟨pk_un (by omega), rfl, rfl, fun i hi => ?_, fun o ho => ⟨rfl, rfl⟩⟩, fun b hb => ⟨rfl, rfl, rfl, rfl, fun _ => rfl, fun _ _ => rfl⟩, fun s hs => ⟨rfl, fun _ _ => ⟨rfl, rfl⟩⟩⟩
  obtain ⟨n, hn, _, en, _⟩ := pd_view w ht
  exact ⟨pk_un (by omega), pk_un (by omega), pk_un (by omega)⟩
theorem ag_out {made blocks tt p : Nat} {x y z : Int32} (w : pd_wf (a_tokenCount, a_tokenOp, a_tokenValue, a_inputCount, a_inputCoin, a_inputA, a_inputB, a_outputCount, a_outputAmount, a_outputScript, a_parentOf, a_heightOf, a_rewardScript, a_blockSize, a_blockTransaction, a_feeOf, a_rewardAmount) made blocks) (h1 : made ≤ tt) (h2 : 3 * made ≤ p) : pd_ag (a_tokenCount, a_tokenOp, a_tokenValue, a_inputCount, a_inputCoin, a_inputA, a_inputB, a_outputCount, a_outputAmount, a_outputScript, a_parentOf, a_heightOf, a_rewardScript, a_blockSize, a_blockTransaction, a_feeOf, a_rewardAmount) (a_tokenCount, a_tokenOp, a_tokenValue, a_inputCount, a_inputCoin, a_inputA, a_inputB, upd a_outputCount tt x, upd a_outputAmount p y, upd a_outputScript p z, a_parentOf, a_heightOf, a_rewardScript, a_blockSize, a_blockTransaction, a_feeOf, a_rewardAmount) made blocks := by
  refine ⟨fun t ht => ⟨rfl, pk_un (by omega), rfl, fun i hi => ⟨rfl, rfl, rfl⟩, fun o ho => ?_⟩, fun b hb => ⟨rfl, rfl, rfl, rfl, fun _ => rfl, fun _ _ => rfl⟩, fun s hs => ⟨rfl, fun _ _ => ⟨rfl, rfl⟩⟩⟩
  obtain ⟨n, m, _, _, _, hm3, _, em, _⟩ := w.2.2.2.2.1 _ ht
  have emc := pd_cl em (by omega)
  exact ⟨pk_un (by omega), pk_un (by omega)⟩
theorem ag_put {made blocks p : Nat} {x y : Int32} (w : pd_wf (a_tokenCount, a_tokenOp, a_tokenValue, a_inputCount, a_inputCoin, a_inputA, a_inputB, a_outputCount, a_outputAmount, a_outputScript, a_parentOf, a_heightOf, a_rewardScript, a_blockSize, a_blockTransaction, a_feeOf, a_rewardAmount) made blocks) (h2 : 128 ≤ p) : pd_ag (a_tokenCount, a_tokenOp, a_tokenValue, a_inputCount, a_inputCoin, a_inputA, a_inputB, a_outputCount, a_outputAmount, a_outputScript, a_parentOf, a_heightOf, a_rewardScript, a_blockSize, a_blockTransaction, a_feeOf, a_rewardAmount) (a_tokenCount, a_tokenOp, a_tokenValue, a_inputCount, a_inputCoin, a_inputA, a_inputB, a_outputCount, a_outputAmount, a_outputScript, a_parentOf, a_heightOf, a_rewardScript, upd a_blockSize 32 x, upd a_blockTransaction p y, a_feeOf, a_rewardAmount) made blocks := by
  have hbk := w.2.1
  refine ⟨fun t ht => ⟨rfl, rfl, rfl, fun i hi => ⟨rfl, rfl, rfl⟩, fun o ho => ⟨rfl, rfl⟩⟩, fun b hb => ⟨rfl, rfl, pk_un (by omega), rfl, fun _ => rfl, fun i hi => ?_⟩, fun s hs => ⟨rfl, fun _ _ => ⟨rfl, rfl⟩⟩⟩
  obtain ⟨_, _, ⟨n, hn, en, _⟩, _⟩ := w.2.2.2.2.2 b hb
  have enc := pd_cl en (by omega)
  exact pk_un (by omega)
theorem xq_coin {made blocks : Nat} {x : Int32} (w : pd_wf (a_tokenCount, a_tokenOp, a_tokenValue, a_inputCount, a_inputCoin, a_inputA, a_inputB, a_outputCount, a_outputAmount, a_outputScript, a_parentOf, a_heightOf, a_rewardScript, a_blockSize, a_blockTransaction, a_feeOf, a_rewardAmount) made blocks) {post : Int32 → Prop} (H1 : ∀ c, c < 152 → x = nI c → pd_coin (a_tokenCount, a_tokenOp, a_tokenValue, a_inputCount, a_inputCoin, a_inputA, a_inputB, a_outputCount, a_outputAmount, a_outputScript, a_parentOf, a_heightOf, a_rewardScript, a_blockSize, a_blockTransaction, a_feeOf, a_rewardAmount) made blocks c → post 1) (H0 : (∀ c, c < 152 → x = nI c → ¬ pd_coin (a_tokenCount, a_tokenOp, a_tokenValue, a_inputCount, a_inputCoin, a_inputA, a_inputB, a_outputCount, a_outputAmount, a_outputScript, a_parentOf, a_heightOf, a_rewardScript, a_blockSize, a_blockTransaction, a_feeOf, a_rewardAmount) made blocks c) → post 0) : wpX_isCoin post (f_stackSize, nI made, f_putCount, nI blocks, f_tip, f_poolCount, f_queueCount, a_tokenCount, a_tokenOp, a_tokenValue, a_scriptInUse, a_stack, a_inputCount, a_inputCoin, a_inputA, a_inputB, a_outputCount, a_outputAmount, a_outputScript, a_feeOf, a_putRow, a_parentOf, a_heightOf, a_chainWork, a_blockState, a_rewardAmount, a_rewardScript, a_blockSize, a_blockTransaction, a_laidBlock, a_coinHeight, a_coinSpent, a_transactionHeight, a_poolRow, a_marked, a_queue) x := by
  have hm := w.2.2.1
  have hbk := w.2.1
  by_cases hx : x < 0
  · exact br_f (Int32.not_le.mpr hx) (H0 fun c hc e => by rw [e] at hx; exact (nI_pos (by omega) hx).elim)
  obtain ⟨c, hc, rfl⟩ := nI_of hx
  refine br_t (Int32.not_lt.mp hx) (pk_lt c 120 (fun z => ⟨by decide, ?_⟩) (fun z => ?_))
  · have e3 : nI c / 3 = nI (c / 3) := pk_div (d := 3) (by omega) (by omega) (by omega)
    have er : nI c - nI c / 3 * 3 = nI (c % 3) := pk_rem (d := 3) (by omega) (by omega) (by omega)
    rw [er, e3]
    have hno : ¬ (c / 3 < made ∧ c % 3 < (a_outputCount (c / 3)).toNatClampNeg) → post 0 := fun q => H0 fun c' hc' e' => by
      rw [nI_eq (by omega) (by omega)] at e'
      subst e'
      rintro (⟨_, q2, q3⟩ | ⟨q1, _⟩)
      · exact q ⟨q2, q3⟩
      · omega
    refine pk_le made (c / 3) (fun z1 => hno fun q => by omega) (fun z1 => ⟨by decide, by decide, pk_in (c / 3) 41 (by omega), ?_⟩)
    obtain ⟨_, m, _, _, _, hm3, _, em, _⟩ := w.2.2.2.2.1 _ z1
    have em' : a_outputCount (c / 3) = nI m := em
    have emc : (a_outputCount (c / 3)).toNatClampNeg = m := pd_cl em' (by omega)
    rw [pk_cl (x := nI (c / 3)) (c / 3), em']
    exact pk_le m (c % 3) (fun z2 => hno fun q => by omega) (fun z2 => H1 c (by omega) rfl (Or.inl ⟨z, z1, by show c % 3 < (a_outputCount (c / 3)).toNatClampNeg; omega⟩))
  · have ex : nI c - 120 = nI (c - 120) := pk_sub (b := 120) z
    rw [ex]
    refine pk_le blocks (c - 120) (fun z1 => H0 fun c' hc' e' => ?_) (fun z1 => H1 c (by omega) rfl (Or.inr ⟨z, z1⟩))
    rw [nI_eq (by omega) (by omega)] at e'
    subst e'
    rintro (⟨q1, _⟩ | ⟨_, q2⟩) <;> omega
end
section
variable {g_made g_blocks g_arrivals g_tip g_pooled g_chainLength : Int32} {b_op b_arg b_length b_ins b_inCoin b_inA b_inB b_outs b_amount b_lock b_parent b_work b_rewardLock b_height b_many b_holds b_delivered b_arrived b_pool b_chain b_from b_worth b_within b_spent b_stack b_again b_chosen gfe grw : Nat → Int32}
theorem yq_coin {made blocks : Nat} {x : Int32} (w : pd_wf (b_length, b_op, b_arg, b_ins, b_inCoin, b_inA, b_inB, b_outs, b_amount, b_lock, b_parent, b_height, b_rewardLock, b_many, b_holds, gfe, grw) made blocks) {post : Int32 → Prop} (H1 : ∀ c, c < 152 → x = nI c → pd_coin (b_length, b_op, b_arg, b_ins, b_inCoin, b_inA, b_inB, b_outs, b_amount, b_lock, b_parent, b_height, b_rewardLock, b_many, b_holds, gfe, grw) made blocks c → post 1) (H0 : (∀ c, c < 152 → x = nI c → ¬ pd_coin (b_length, b_op, b_arg, b_ins, b_inCoin, b_inA, b_inB, b_outs, b_amount, b_lock, b_parent, b_height, b_rewardLock, b_many, b_holds, gfe, grw) made blocks c) → post 0) : wpY_isCoin post (nI made, nI blocks, g_arrivals, g_tip, g_pooled, g_chainLength, b_op, b_arg, b_length, b_ins, b_inCoin, b_inA, b_inB, b_outs, b_amount, b_lock, b_parent, b_work, b_rewardLock, b_height, b_many, b_holds, b_delivered, b_arrived, b_pool, b_chain, b_from, b_worth, b_within, b_spent, b_stack, b_again, b_chosen) x := by
  have hm := w.2.2.1
  have hbk := w.2.1
  unfold wpY_isCoin
  dsimp only
  refine yq_in (n := 152) (by omega) (fun h => br_t rfl (H0 fun c hc e => ?_)) (fun c hc e => br_f (by decide) ?_)
  · subst e
    rcases h with h | h
    · exact (nI_pos (by omega) h).elim
    · exact (nI_ge hc (by omega) h).elim
  subst e
  refine pk_le 120 c (fun z => ?_) (fun z => ⟨by decide, ?_⟩)
  · have ex : nI c - 120 = nI (c - 120) := pk_sub (b := 120) z
    rw [ex]
    refine pk_le blocks (c - 120) (fun z1 => H0 fun c' hc' e' => ?_) (fun z1 => H1 c (by omega) rfl (Or.inr ⟨z, z1⟩))
    rw [nI_eq (by omega) (by omega)] at e'
    subst e'
    rintro (⟨q1, _⟩ | ⟨_, q2⟩) <;> omega
  · have e3 : nI c / 3 = nI (c / 3) := pk_div (d := 3) (by omega) (by omega) (by omega)
    have er : nI c - nI c / 3 * 3 = nI (c % 3) := pk_rem (d := 3) (by omega) (by omega) (by omega)
    rw [er, e3]
    have hno : ¬ (c / 3 < made ∧ c % 3 < (b_outs (c / 3)).toNatClampNeg) → post 0 := fun q => H0 fun c' hc' e' => by
      rw [nI_eq (by omega) (by omega)] at e'
      subst e'
      rintro (⟨_, q2, q3⟩ | ⟨q1, _⟩)
      · exact q ⟨q2, q3⟩
      · omega
    refine pk_le made (c / 3) (fun z1 => hno fun q => by omega) (fun z1 => ⟨by decide, by decide, pk_in (c / 3) 41 (by omega), ?_⟩)
    obtain ⟨_, m, _, _, _, hm3, _, em, _⟩ := w.2.2.2.2.1 _ z1
    have em' : b_outs (c / 3) = nI m := em
    have emc : (b_outs (c / 3)).toNatClampNeg = m := pd_cl em' (by omega)
    rw [pk_cl (x := nI (c / 3)) (c / 3), em']
    exact pk_le m (c % 3) (fun z2 => hno fun q => by omega) (fun z2 => H1 c (by omega) rfl (Or.inl ⟨z, z1, by show c % 3 < (b_outs (c / 3)).toNatClampNeg; omega⟩))
theorem ym_inp14 {di : Nat} {x1 x2 x3 : Int32} (hdi : di ≤ 3) (ed : b_ins 40 = nI di) {post : Int32 → SY → Prop} (H1 : (∃ i, i < di ∧ b_inCoin (120 + i) = x1) → post (-1) (g_made, g_blocks, g_arrivals, g_tip, g_pooled, g_chainLength, b_op, b_arg, b_length, b_ins, b_inCoin, b_inA, b_inB, b_outs, b_amount, b_lock, b_parent, b_work, b_rewardLock, b_height, b_many, b_holds, b_delivered, b_arrived, b_pool, b_chain, b_from, b_worth, b_within, b_spent, b_stack, b_again, b_chosen))
    (H5 : ¬ (∃ i, i < di ∧ b_inCoin (120 + i) = x1) → di = 3 → post (-5) (g_made, g_blocks, g_arrivals, g_tip, g_pooled, g_chainLength, b_op, b_arg, b_length, b_ins, b_inCoin, b_inA, b_inB, b_outs, b_amount, b_lock, b_parent, b_work, b_rewardLock, b_height, b_many, b_holds, b_delivered, b_arrived, b_pool, b_chain, b_from, b_worth, b_within, b_spent, b_stack, b_again, b_chosen))
    (H0 : ¬ (∃ i, i < di ∧ b_inCoin (120 + i) = x1) → di < 3 → post (nI (di + 1)) (g_made, g_blocks, g_arrivals, g_tip, g_pooled, g_chainLength, b_op, b_arg, b_length, upd b_ins 40 (nI (di + 1)), upd b_inCoin (120 + di) x1, upd b_inA (120 + di) x2, upd b_inB (120 + di) x3, b_outs, b_amount, b_lock, b_parent, b_work, b_rewardLock, b_height, b_many, b_holds, b_delivered, b_arrived, b_pool, b_chain, b_from, b_worth, b_within, b_spent, b_stack, b_again, b_chosen)) : ∃ fuel, wY_input_14 post x1 x2 x3 g_made g_blocks g_arrivals g_tip g_pooled g_chainLength b_op b_arg b_length b_ins b_inCoin b_inA b_inB b_outs b_amount b_lock b_parent b_work b_rewardLock b_height b_many b_holds b_delivered b_arrived b_pool b_chain b_from b_worth b_within b_spent b_stack b_again b_chosen fuel 120 := by
  have e120 : (120 : Int32) + b_ins 40 = nI (120 + di) := by rw [ed]; exact nI_add 120 di
  have key : ∀ (d i fuel : Nat), i + d = di → d < fuel → (∀ j, j < i → b_inCoin (120 + j) ≠ x1) → wY_input_14 post x1 x2 x3 g_made g_blocks g_arrivals g_tip g_pooled g_chainLength b_op b_arg b_length b_ins b_inCoin b_inA b_inB b_outs b_amount b_lock b_parent b_work b_rewardLock b_height b_many b_holds b_delivered b_arrived b_pool b_chain b_from b_worth b_within b_spent b_stack b_again b_chosen fuel (nI (120 + i)) := by
    intro d
    induction d with
    | zero =>
      intro i fuel hi hf hno
      obtain ⟨fuel, rfl⟩ : ∃ q, fuel = q + 1 := ⟨fuel - 1, by omega⟩
      obtain rfl : i = di := by omega
      have hno' : ¬ (∃ j, j < i ∧ b_inCoin (120 + j) = x1) := fun ⟨j, h1, h2⟩ => hno j h1 h2
      refine br_t (by rw [e120]; exact nI_le (Nat.le_refl _) (by omega)) (pk_eq i 3 (fun e => H5 hno' e) (fun e => nm_r e120 ⟨pk_in (120 + i) 123 (by omega), nm_r (by rw [pk_cl (x := nI (120 + i)) (120 + i)]) ⟨pk_in (120 + i) 123 (by omega), nm_r (by rw [pk_cl (x := nI (120 + i)) (120 + i)]) ⟨pk_in (120 + i) 123 (by omega), nm_r (by rw [pk_cl (x := nI (120 + i)) (120 + i)]) (nm_r (by rw [ed, nI_1]) ?_)⟩⟩⟩) ed)
      rw [pk_us]; exact H0 hno' (by omega)
    | succ d ih =>
      intro i fuel hi hf hno
      obtain ⟨fuel, rfl⟩ : ∃ q, fuel = q + 1 := ⟨fuel - 1, by omega⟩
      refine pk_le (120 + di) (120 + i) (fun z => by omega) (fun z => ⟨pk_in (120 + i) 123 (by omega), ?_⟩) e120
      rw [pk_cl (x := nI (120 + i)) (120 + i)]
      refine br_c (fun q => H1 ⟨i, by omega, q⟩) (fun q => nm_r (nI_1 (120 + i)) (ih (i + 1) fuel (by omega) (by omega) fun j hj => ?_))
      by_cases e : j = i
      · rw [e]; exact q
      · exact hno j (by omega)
  exact ⟨di + 1, key di 0 (di + 1) (by omega) (by omega) (fun j hj => by omega)⟩
theorem ym_put17 {pc : Nat} {x1 : Int32} (hpc : pc ≤ 4) (ed : b_many 32 = nI pc) {post : Int32 → SY → Prop} (H1 : (∃ i, i < pc ∧ b_holds (128 + i) = x1) → post (-1) (g_made, g_blocks, g_arrivals, g_tip, g_pooled, g_chainLength, b_op, b_arg, b_length, b_ins, b_inCoin, b_inA, b_inB, b_outs, b_amount, b_lock, b_parent, b_work, b_rewardLock, b_height, b_many, b_holds, b_delivered, b_arrived, b_pool, b_chain, b_from, b_worth, b_within, b_spent, b_stack, b_again, b_chosen))
    (H5 : ¬ (∃ i, i < pc ∧ b_holds (128 + i) = x1) → pc = 4 → post (-5) (g_made, g_blocks, g_arrivals, g_tip, g_pooled, g_chainLength, b_op, b_arg, b_length, b_ins, b_inCoin, b_inA, b_inB, b_outs, b_amount, b_lock, b_parent, b_work, b_rewardLock, b_height, b_many, b_holds, b_delivered, b_arrived, b_pool, b_chain, b_from, b_worth, b_within, b_spent, b_stack, b_again, b_chosen))
    (H0 : ¬ (∃ i, i < pc ∧ b_holds (128 + i) = x1) → pc < 4 → post (nI (pc + 1)) (g_made, g_blocks, g_arrivals, g_tip, g_pooled, g_chainLength, b_op, b_arg, b_length, b_ins, b_inCoin, b_inA, b_inB, b_outs, b_amount, b_lock, b_parent, b_work, b_rewardLock, b_height, upd b_many 32 (nI (pc + 1)), upd b_holds (128 + pc) x1, b_delivered, b_arrived, b_pool, b_chain, b_from, b_worth, b_within, b_spent, b_stack, b_again, b_chosen)) : ∃ fuel, wY_put_17 post x1 g_made g_blocks g_arrivals g_tip g_pooled g_chainLength b_op b_arg b_length b_ins b_inCoin b_inA b_inB b_outs b_amount b_lock b_parent b_work b_rewardLock b_height b_many b_holds b_delivered b_arrived b_pool b_chain b_from b_worth b_within b_spent b_stack b_again b_chosen fuel 128 := by
  have e128 : (128 : Int32) + b_many 32 = nI (128 + pc) := by rw [ed]; exact nI_add 128 pc
  have key : ∀ (d i fuel : Nat), i + d = pc → d < fuel → (∀ j, j < i → b_holds (128 + j) ≠ x1) → wY_put_17 post x1 g_made g_blocks g_arrivals g_tip g_pooled g_chainLength b_op b_arg b_length b_ins b_inCoin b_inA b_inB b_outs b_amount b_lock b_parent b_work b_rewardLock b_height b_many b_holds b_delivered b_arrived b_pool b_chain b_from b_worth b_within b_spent b_stack b_again b_chosen fuel (nI (128 + i)) := by
    intro d
    induction d with
    | zero =>
      intro i fuel hi hf hno
      obtain ⟨fuel, rfl⟩ : ∃ q, fuel = q + 1 := ⟨fuel - 1, by omega⟩
      obtain rfl : i = pc := by omega
      have hno' : ¬ (∃ j, j < i ∧ b_holds (128 + j) = x1) := fun ⟨j, h1, h2⟩ => hno j h1 h2
      refine br_t (by rw [e128]; exact nI_le (Nat.le_refl _) (by omega)) (pk_eq i 4 (fun e => H5 hno' e) (fun e => ⟨pk_in (128 + i) 132 (by omega) e128, nm_r (by rw [pk_cl (128 + i) e128]) (nm_r (by rw [ed, nI_1]) ?_)⟩) ed)
      rw [pk_us]; exact H0 hno' (by omega)
    | succ d ih =>
      intro i fuel hi hf hno
      obtain ⟨fuel, rfl⟩ : ∃ q, fuel = q + 1 := ⟨fuel - 1, by omega⟩
      refine pk_le (128 + pc) (128 + i) (fun z => by omega) (fun z => ⟨pk_in (128 + i) 132 (by omega), ?_⟩) e128
      rw [pk_cl (x := nI (128 + i)) (128 + i)]
      refine br_c (fun q => H1 ⟨i, by omega, q⟩) (fun q => nm_r (nI_1 (128 + i)) (ih (i + 1) fuel (by omega) (by omega) fun j hj => ?_))
      by_cases e : j = i
      · rw [e]; exact q
      · exact hno j (by omega)
  exact ⟨pc + 1, key pc 0 (pc + 1) (by omega) (by omega) (fun j hj => by omega)⟩
end
section
variable {f_stackSize f_transactions f_putCount f_blocks f_tip f_poolCount f_queueCount : Int32} {a_tokenCount a_tokenOp a_tokenValue a_scriptInUse a_stack a_inputCount a_inputCoin a_inputA a_inputB a_outputCount a_outputAmount a_outputScript a_feeOf a_putRow a_parentOf a_heightOf a_chainWork a_blockState a_rewardAmount a_rewardScript a_blockSize a_blockTransaction a_laidBlock a_coinHeight a_coinSpent a_transactionHeight a_poolRow a_marked a_queue : Nat → Int32}
theorem xm_put12 {pc : Nat} {x1 : Int32} (hpc : pc ≤ 4) {post : Int32 → SX → Prop} (H1 : (∃ i, i < pc ∧ a_putRow i = x1) → post (-1) (f_stackSize, f_transactions, nI pc, f_blocks, f_tip, f_poolCount, f_queueCount, a_tokenCount, a_tokenOp, a_tokenValue, a_scriptInUse, a_stack, a_inputCount, a_inputCoin, a_inputA, a_inputB, a_outputCount, a_outputAmount, a_outputScript, a_feeOf, a_putRow, a_parentOf, a_heightOf, a_chainWork, a_blockState, a_rewardAmount, a_rewardScript, a_blockSize, a_blockTransaction, a_laidBlock, a_coinHeight, a_coinSpent, a_transactionHeight, a_poolRow, a_marked, a_queue))
    (H5 : ¬ (∃ i, i < pc ∧ a_putRow i = x1) → pc = 4 → post (-5) (f_stackSize, f_transactions, nI pc, f_blocks, f_tip, f_poolCount, f_queueCount, a_tokenCount, a_tokenOp, a_tokenValue, a_scriptInUse, a_stack, a_inputCount, a_inputCoin, a_inputA, a_inputB, a_outputCount, a_outputAmount, a_outputScript, a_feeOf, a_putRow, a_parentOf, a_heightOf, a_chainWork, a_blockState, a_rewardAmount, a_rewardScript, a_blockSize, a_blockTransaction, a_laidBlock, a_coinHeight, a_coinSpent, a_transactionHeight, a_poolRow, a_marked, a_queue))
    (H0 : ¬ (∃ i, i < pc ∧ a_putRow i = x1) → pc < 4 → post (nI (pc + 1)) (f_stackSize, f_transactions, nI (pc + 1), f_blocks, f_tip, f_poolCount, f_queueCount, a_tokenCount, a_tokenOp, a_tokenValue, a_scriptInUse, a_stack, a_inputCount, a_inputCoin, a_inputA, a_inputB, a_outputCount, a_outputAmount, a_outputScript, a_feeOf, upd a_putRow pc x1, a_parentOf, a_heightOf, a_chainWork, a_blockState, a_rewardAmount, a_rewardScript, a_blockSize, a_blockTransaction, a_laidBlock, a_coinHeight, a_coinSpent, a_transactionHeight, a_poolRow, a_marked, a_queue)) : ∃ fuel, wX_put_12 post x1 f_stackSize f_transactions (nI pc) f_blocks f_tip f_poolCount f_queueCount a_tokenCount a_tokenOp a_tokenValue a_scriptInUse a_stack a_inputCount a_inputCoin a_inputA a_inputB a_outputCount a_outputAmount a_outputScript a_feeOf a_putRow a_parentOf a_heightOf a_chainWork a_blockState a_rewardAmount a_rewardScript a_blockSize a_blockTransaction a_laidBlock a_coinHeight a_coinSpent a_transactionHeight a_poolRow a_marked a_queue fuel 0 := by
  have key : ∀ (d i fuel : Nat), i + d = pc → d < fuel → (∀ j, j < i → a_putRow j ≠ x1) → wX_put_12 post x1 f_stackSize f_transactions (nI pc) f_blocks f_tip f_poolCount f_queueCount a_tokenCount a_tokenOp a_tokenValue a_scriptInUse a_stack a_inputCount a_inputCoin a_inputA a_inputB a_outputCount a_outputAmount a_outputScript a_feeOf a_putRow a_parentOf a_heightOf a_chainWork a_blockState a_rewardAmount a_rewardScript a_blockSize a_blockTransaction a_laidBlock a_coinHeight a_coinSpent a_transactionHeight a_poolRow a_marked a_queue fuel (nI i) := by
    intro d
    induction d with
    | zero =>
      intro i fuel hi hf hno
      obtain ⟨fuel, rfl⟩ : ∃ q, fuel = q + 1 := ⟨fuel - 1, by omega⟩
      obtain rfl : i = pc := by omega
      have hno' : ¬ (∃ j, j < i ∧ a_putRow j = x1) := fun ⟨j, h1, h2⟩ => hno j h1 h2
      exact br_t (nI_le (Nat.le_refl _) (by omega)) (pk_eq i 4 (fun e => H5 hno' e) (fun e => ⟨pk_in i 4 (by omega), nm_r (by rw [pk_cl i]) (nm_r (nI_1 i) (H0 hno' (by omega)))⟩))
    | succ d ih =>
      intro i fuel hi hf hno
      obtain ⟨fuel, rfl⟩ : ∃ q, fuel = q + 1 := ⟨fuel - 1, by omega⟩
      refine pk_le pc i (fun z => by omega) (fun z => ⟨pk_in i 4 (by omega), ?_⟩)
      rw [pk_cl i]
      refine br_c (fun q => H1 ⟨i, by omega, q⟩) (fun q => nm_r (nI_1 i) (ih (i + 1) fuel (by omega) (by omega) fun j hj => ?_))
      by_cases e : j = i
      · rw [e]; exact q
      · exact hno j (by omega)
  exact ⟨pc + 1, key pc 0 (pc + 1) (by omega) (by omega) (fun j hj => by omega)⟩
end
section
variable {g_made g_blocks g_arrivals g_tip g_pooled g_chainLength : Int32} {b_op b_arg b_length b_ins b_inCoin b_inA b_inB b_outs b_amount b_lock b_parent b_work b_rewardLock b_height b_many b_holds b_delivered b_arrived b_pool b_chain b_from b_worth b_within b_spent b_stack b_again b_chosen gfe grw : Nat → Int32}
theorem df_mh {D : pd_D} {made blocks : Nat} {mm hh : Nat → Int32} (h : cn_drf D (b_length, b_op, b_arg, b_ins, b_inCoin, b_inA, b_inB, b_outs, b_amount, b_lock, b_parent, b_height, b_rewardLock, b_many, b_holds, gfe, grw) made blocks) : cn_drf D (b_length, b_op, b_arg, b_ins, b_inCoin, b_inA, b_inB, b_outs, b_amount, b_lock, b_parent, b_height, b_rewardLock, mm, hh, gfe, grw) made blocks := h
theorem pu_io {D D' : pd_D} {made pc : Nat} {pr c1 c2 c3 c4 c5 c6 c7 : Nat → Int32} (h : cn_put D (b_length, b_op, b_arg, b_ins, b_inCoin, b_inA, b_inB, b_outs, b_amount, b_lock, b_parent, b_height, b_rewardLock, b_many, b_holds, gfe, grw) pr made pc) : cn_put D' (b_length, b_op, b_arg, c1, c2, c3, c4, c5, c6, c7, b_parent, b_height, b_rewardLock, b_many, b_holds, gfe, grw) pr made pc := h
end
section
variable {f_stackSize f_transactions f_putCount f_blocks f_tip f_poolCount f_queueCount : Int32} {a_tokenCount a_tokenOp a_tokenValue a_scriptInUse a_stack a_inputCount a_inputCoin a_inputA a_inputB a_outputCount a_outputAmount a_outputScript a_feeOf a_putRow a_parentOf a_heightOf a_chainWork a_blockState a_rewardAmount a_rewardScript a_blockSize a_blockTransaction a_laidBlock a_coinHeight a_coinSpent a_transactionHeight a_poolRow a_marked a_queue : Nat → Int32}
theorem fr_io {blocks : Nat} {c1 c2 c3 c4 c5 c6 c7 : Nat → Int32} (h : cn_fre (a_tokenCount, a_tokenOp, a_tokenValue, a_inputCount, a_inputCoin, a_inputA, a_inputB, a_outputCount, a_outputAmount, a_outputScript, a_parentOf, a_heightOf, a_rewardScript, a_blockSize, a_blockTransaction, a_feeOf, a_rewardAmount) blocks) : cn_fre (a_tokenCount, a_tokenOp, a_tokenValue, c1, c2, c3, c4, c5, c6, c7, a_parentOf, a_heightOf, a_rewardScript, a_blockSize, a_blockTransaction, a_feeOf, a_rewardAmount) blocks := h
end
theorem i_vc_put {k : Nat} {u : SX} {v : SY} (I : i_Rel k u v) (hk : k + 4 ≤ 2048) (v1 : Int32) : wpX_put (fun r u' => wpY_put (fun r' v' => r' = r ∧ i_Rel (k + 4) u' v') v v1) u v1 := by
  obtain ⟨f_stackSize, f_transactions, f_putCount, f_blocks, f_tip, f_poolCount, f_queueCount, a_tokenCount, a_tokenOp, a_tokenValue, a_scriptInUse, a_stack, a_inputCount, a_inputCoin, a_inputA, a_inputB, a_outputCount, a_outputAmount, a_outputScript, a_feeOf, a_putRow, a_parentOf, a_heightOf, a_chainWork, a_blockState, a_rewardAmount, a_rewardScript, a_blockSize, a_blockTransaction, a_laidBlock, a_coinHeight, a_coinSpent, a_transactionHeight, a_poolRow, a_marked, a_queue⟩ := u
  obtain ⟨g_made, g_blocks, g_arrivals, g_tip, g_pooled, g_chainLength, b_op, b_arg, b_length, b_ins, b_inCoin, b_inA, b_inB, b_outs, b_amount, b_lock, b_parent, b_work, b_rewardLock, b_height, b_many, b_holds, b_delivered, b_arrived, b_pool, b_chain, b_from, b_worth, b_within, b_spent, b_stack, b_again, b_chosen⟩ := v
  have I' := I
  obtain ⟨made, blocks, tp, n, np, pc, ar, ⟨rfl, rfl, rfl, rfl, rfl⟩, ⟨rfl, rfl, rfl, rfl, rfl⟩, ⟨rfl, rfl, rfl, rfl⟩, ⟨rfl, rfl, rfl⟩, ST, B, RD, ⟨eh, hn⟩, hl, P, hS⟩ := I
  obtain ⟨tk, w, ag, fq, rq, hp0, us, df, pu, fr⟩ := ST
  have hm := w.2.2.1
  obtain ⟨hpc, epc, hpr⟩ := pu
  have epc' : b_many 32 = nI pc := epc
  have hsame : ∀ x : Int32, (∃ i, i < pc ∧ b_holds (128 + i) = x) ↔ (∃ i, i < pc ∧ a_putRow i = x) := fun x => exists_congr fun i => and_congr_right fun hi => by
    rw [(hpr i hi).1]
  rcases pk_ix v1 (n := made) (by omega) with h | h | ⟨t, ht, rfl⟩
  · exact br_t h (br_t rfl (br_t h (br_t rfl ⟨rfl, I'⟩)))
  · have h0 : ¬ v1 < 0 := Int32.not_lt.mpr (Int32.le_trans (nI_pos' (by omega)) h)
    exact br_f h0 (br_t h (br_t rfl (br_f h0 (br_t h (br_t rfl ⟨rfl, I'⟩)))))
  have t0 : ¬ nI t < 0 := nI_pos (by omega)
  have t1 : ¬ nI made ≤ nI t := nI_ge ht (by omega)
  refine br_f t0 (br_f t1 (br_f (by decide) (xm_put12 hpc (fun q => ?_) (fun q e => ?_) (fun q e => ?_))))
  · exact br_f t0 (br_f t1 (br_f (by decide) (ym_put17 hpc epc' (fun _ => ⟨rfl, I'⟩) (fun q' => (q' ((hsame _).mpr q)).elim) (fun q' => (q' ((hsame _).mpr q)).elim))))
  · exact br_f t0 (br_f t1 (br_f (by decide) (ym_put17 hpc epc' (fun q' => (q ((hsame _).mp q')).elim) (fun _ _ => ⟨rfl, I'⟩) (fun _ q' => by omega))))
  · refine br_f t0 (br_f t1 (br_f (by decide) (ym_put17 hpc epc' (fun q' => (q ((hsame _).mp q')).elim) (fun _ q' => by omega) (fun _ _ => ⟨rfl, ?_⟩))))
    refine rl_mk w (pd_ag_refl _ _ _) tk (pd_ag_trans ag (ag_put (pd_wf_ag w ag) (by omega))) fq rq hp0 us (df_mh df) ⟨by omega, (pk_us : upd b_many 32 (nI (pc + 1)) 32 = nI (pc + 1)), fun i hi => ?_⟩ fr B RD eh hn hl P hS
    by_cases e1 : i = pc
    · subst e1
      refine ⟨?_, t, ht, pk_us⟩
      rw [pk_us]
      exact (pk_us : upd b_holds (128 + i) (nI t) (128 + i) = nI t).symm
    · obtain ⟨h1, t', h2, h3⟩ := hpr i (by omega)
      refine ⟨?_, t', h2, by rw [pk_un e1]; exact h3⟩
      rw [pk_un e1, h1]
      exact (pk_un (by omega) : upd b_holds (128 + pc) (nI t) (128 + i) = b_holds (128 + i)).symm
end
section
/-! input and output -/
section
variable {f_stackSize f_transactions f_putCount f_blocks f_tip f_poolCount f_queueCount : Int32} {a_tokenCount a_tokenOp a_tokenValue a_scriptInUse a_stack a_inputCount a_inputCoin a_inputA a_inputB a_outputCount a_outputAmount a_outputScript a_feeOf a_putRow a_parentOf a_heightOf a_chainWork a_blockState a_rewardAmount a_rewardScript a_blockSize a_blockTransaction a_laidBlock a_coinHeight a_coinSpent a_transactionHeight a_poolRow a_marked a_queue : Nat → Int32}
variable {g_made g_blocks g_arrivals g_tip g_pooled g_chainLength : Int32} {b_op b_arg b_length b_ins b_inCoin b_inA b_inB b_outs b_amount b_lock b_parent b_work b_rewardLock b_height b_many b_holds b_delivered b_arrived b_pool b_chain b_from b_worth b_within b_spent b_stack b_again b_chosen gfe grw : Nat → Int32}
theorem df_inp {made blocks di c : Nat} {v2 v3 : Int32} (w : pd_wf (a_tokenCount, a_tokenOp, a_tokenValue, a_inputCount, a_inputCoin, a_inputA, a_inputB, a_outputCount, a_outputAmount, a_outputScript, a_parentOf, a_heightOf, a_rewardScript, a_blockSize, a_blockTransaction, a_feeOf, a_rewardAmount) made blocks) (hc : c < 152) (hq : pd_coin (a_tokenCount, a_tokenOp, a_tokenValue, a_inputCount, a_inputCoin, a_inputA, a_inputB, a_outputCount, a_outputAmount, a_outputScript, a_parentOf, a_heightOf, a_rewardScript, a_blockSize, a_blockTransaction, a_feeOf, a_rewardAmount) made blocks c) (h3 : di < 3) (ei : a_inputCount made = nI di) (hno : ¬ ∃ i, i < di ∧ a_inputCoin (3 * made + i) = nI c) (df : cn_drf (a_tokenCount, a_tokenOp, a_tokenValue, a_inputCount, a_inputCoin, a_inputA, a_inputB, a_outputCount, a_outputAmount, a_outputScript, a_parentOf, a_heightOf, a_rewardScript, a_blockSize, a_blockTransaction, a_feeOf, a_rewardAmount) (b_length, b_op, b_arg, b_ins, b_inCoin, b_inA, b_inB, b_outs, b_amount, b_lock, b_parent, b_height, b_rewardLock, b_many, b_holds, gfe, grw) made blocks) :
    cn_drf (a_tokenCount, a_tokenOp, a_tokenValue, upd a_inputCount made (nI (di + 1)), upd a_inputCoin (3 * made + di) (nI c), upd a_inputA (3 * made + di) v2, upd a_inputB (3 * made + di) v3, a_outputCount, a_outputAmount, a_outputScript, a_parentOf, a_heightOf, a_rewardScript, a_blockSize, a_blockTransaction, a_feeOf, a_rewardAmount) (b_length, b_op, b_arg, upd b_ins 40 (nI (di + 1)), upd b_inCoin (120 + di) (nI c), upd b_inA (120 + di) v2, upd b_inB (120 + di) v3, b_outs, b_amount, b_lock, b_parent, b_height, b_rewardLock, b_many, b_holds, gfe, grw) made blocks := by
  have a := ag_inp (x := nI (di + 1)) (y := nI c) (z := v2) (q := v3) w (tt := made) (p := 3 * made + di) (Nat.le_refl _) (by omega)
  obtain ⟨di', od, d1, d2, d3, d4, d5, d6, d7, d8, d9, d10⟩ := df
  have d3' : a_inputCount made = nI di' := d3
  obtain rfl : di = di' := by rw [ei, nI_eq (by omega) (by omega)] at d3'; exact d3'
  have hm := w.2.2.1
  refine ⟨di + 1, od, by omega, d2, (pk_us : upd a_inputCount made (nI (di + 1)) made = nI (di + 1)), (pk_us : upd b_ins 40 (nI (di + 1)) 40 = nI (di + 1)), d5, d6, fun i hi => ?_, fun i j hi hj e => ?_, d9, fun t h1 h2 => ?_⟩
  · show upd a_inputCoin (3 * made + di) (nI c) (3 * made + i) = upd b_inCoin (120 + di) (nI c) (120 + i) ∧ upd a_inputA (3 * made + di) v2 (3 * made + i) = upd b_inA (120 + di) v2 (120 + i) ∧ upd a_inputB (3 * made + di) v3 (3 * made + i) = upd b_inB (120 + di) v3 (120 + i) ∧ ∃ c', c' < 152 ∧ upd a_inputCoin (3 * made + di) (nI c) (3 * made + i) = nI c' ∧ _
    by_cases e : i = di
    · subst e
      rw [pk_us, pk_us, pk_us, pk_us, pk_us, pk_us]
      exact ⟨rfl, rfl, rfl, c, hc, rfl, (pd_ag_coin a (Nat.le_refl _)).mpr hq⟩
    · rw [pk_un (by omega), pk_un (by omega), pk_un (by omega), pk_un (by omega), pk_un (by omega), pk_un (by omega)]
      obtain ⟨q1, q2, q3, c', q4, q5, q6⟩ := d7 i (by omega)
      exact ⟨q1, q2, q3, c', q4, q5, (pd_ag_coin a (Nat.le_refl _)).mpr q6⟩
  · have e' : upd a_inputCoin (3 * made + di) (nI c) (3 * made + i) = upd a_inputCoin (3 * made + di) (nI c) (3 * made + j) := e
    by_cases e1 : i = di
    · by_cases e2 : j = di
      · omega
      · subst e1
        rw [pk_us, pk_un (by omega)] at e'
        exact (hno ⟨j, by omega, e'.symm⟩).elim
    · by_cases e2 : j = di
      · subst e2
        rw [pk_us, pk_un (by omega)] at e'
        exact (hno ⟨i, by omega, e'⟩).elim
      · rw [pk_un (by omega), pk_un (by omega)] at e'
        exact d8 i j (by omega) (by omega) e'
  · show upd a_inputCount made (nI (di + 1)) t = 0 ∧ _
    rw [pk_un (by omega)]
    exact d10 t h1 h2
theorem df_out {made blocks od s : Nat} {v1 : Int32} (w : pd_wf (a_tokenCount, a_tokenOp, a_tokenValue, a_inputCount, a_inputCoin, a_inputA, a_inputB, a_outputCount, a_outputAmount, a_outputScript, a_parentOf, a_heightOf, a_rewardScript, a_blockSize, a_blockTransaction, a_feeOf, a_rewardAmount) made blocks) (hs : s < 8) (h3 : od < 3) (eo : a_outputCount made = nI od) (df : cn_drf (a_tokenCount, a_tokenOp, a_tokenValue, a_inputCount, a_inputCoin, a_inputA, a_inputB, a_outputCount, a_outputAmount, a_outputScript, a_parentOf, a_heightOf, a_rewardScript, a_blockSize, a_blockTransaction, a_feeOf, a_rewardAmount) (b_length, b_op, b_arg, b_ins, b_inCoin, b_inA, b_inB, b_outs, b_amount, b_lock, b_parent, b_height, b_rewardLock, b_many, b_holds, gfe, grw) made blocks) :
    cn_drf (a_tokenCount, a_tokenOp, a_tokenValue, a_inputCount, a_inputCoin, a_inputA, a_inputB, upd a_outputCount made (nI (od + 1)), upd a_outputAmount (3 * made + od) v1, upd a_outputScript (3 * made + od) (nI s), a_parentOf, a_heightOf, a_rewardScript, a_blockSize, a_blockTransaction, a_feeOf, a_rewardAmount) (b_length, b_op, b_arg, b_ins, b_inCoin, b_inA, b_inB, upd b_outs 40 (nI (od + 1)), upd b_amount (120 + od) v1, upd b_lock (120 + od) (nI s), b_parent, b_height, b_rewardLock, b_many, b_holds, gfe, grw) made blocks := by
  have a := ag_out (x := nI (od + 1)) (y := v1) (z := nI s) w (tt := made) (p := 3 * made + od) (Nat.le_refl _) (by omega)
  obtain ⟨di, od', d1, d2, d3, d4, d5, d6, d7, d8, d9, d10⟩ := df
  have d5' : a_outputCount made = nI od' := d5
  obtain rfl : od = od' := by rw [eo, nI_eq (by omega) (by omega)] at d5'; exact d5'
  have hm := w.2.2.1
  refine ⟨di, od + 1, d1, by omega, d3, d4, (pk_us : upd a_outputCount made (nI (od + 1)) made = nI (od + 1)), (pk_us : upd b_outs 40 (nI (od + 1)) 40 = nI (od + 1)), fun i hi => ?_, d8, fun i hi => ?_, fun t h1 h2 => ?_⟩
  · obtain ⟨q1, q2, q3, c', q4, q5, q6⟩ := d7 i hi
    exact ⟨q1, q2, q3, c', q4, q5, (pd_ag_coin a (Nat.le_refl _)).mpr q6⟩
  · show upd a_outputAmount (3 * made + od) v1 (3 * made + i) = upd b_amount (120 + od) v1 (120 + i) ∧ upd a_outputScript (3 * made + od) (nI s) (3 * made + i) = upd b_lock (120 + od) (nI s) (120 + i) ∧ ∃ s', s' < 8 ∧ upd a_outputScript (3 * made + od) (nI s) (3 * made + i) = nI s'
    by_cases e : i = od
    · subst e
      rw [pk_us, pk_us, pk_us, pk_us]
      exact ⟨rfl, rfl, s, hs, rfl⟩
    · rw [pk_un (by omega), pk_un (by omega), pk_un (by omega), pk_un (by omega)]
      exact d9 i (by omega)
  · show _ ∧ upd a_outputCount made (nI (od + 1)) t = 0
    rw [pk_un (by omega)]
    exact d10 t h1 h2
end
theorem i_vc_input {k : Nat} {u : SX} {v : SY} (I : i_Rel k u v) (hk : k + 4 ≤ 2048) (v1 : Int32) (v2 : Int32) (v3 : Int32) : wpX_input (fun r u' => wpY_input (fun r' v' => r' = r ∧ i_Rel (k + 4) u' v') v v1 v2 v3) u v1 v2 v3 := by
  obtain ⟨f_stackSize, f_transactions, f_putCount, f_blocks, f_tip, f_poolCount, f_queueCount, a_tokenCount, a_tokenOp, a_tokenValue, a_scriptInUse, a_stack, a_inputCount, a_inputCoin, a_inputA, a_inputB, a_outputCount, a_outputAmount, a_outputScript, a_feeOf, a_putRow, a_parentOf, a_heightOf, a_chainWork, a_blockState, a_rewardAmount, a_rewardScript, a_blockSize, a_blockTransaction, a_laidBlock, a_coinHeight, a_coinSpent, a_transactionHeight, a_poolRow, a_marked, a_queue⟩ := u
  obtain ⟨g_made, g_blocks, g_arrivals, g_tip, g_pooled, g_chainLength, b_op, b_arg, b_length, b_ins, b_inCoin, b_inA, b_inB, b_outs, b_amount, b_lock, b_parent, b_work, b_rewardLock, b_height, b_many, b_holds, b_delivered, b_arrived, b_pool, b_chain, b_from, b_worth, b_within, b_spent, b_stack, b_again, b_chosen⟩ := v
  have I' := I
  obtain ⟨made, blocks, tp, n, np, pc, ar, ⟨rfl, rfl, rfl, rfl, rfl⟩, ⟨rfl, rfl, rfl, rfl, rfl⟩, ⟨rfl, rfl, rfl, rfl⟩, ⟨rfl, rfl, rfl⟩, ST, B, RD, ⟨eh, hn⟩, hl, P, hS⟩ := I
  obtain ⟨tk, w, ag, fq, rq, hp0, us, df, pu, fr⟩ := ST
  have hm := w.2.2.1
  have wE := pd_wf_ag w ag
  have df' := df
  obtain ⟨di, od, d1, d2, d3, d4, d5, d6, d7, d8, d9, d10⟩ := df'
  have d3' : a_inputCount made = nI di := d3
  have d4' : b_ins 40 = nI di := d4
  have emc : (nI made).toNatClampNeg = made := pk_cl made
  have hsame : ∀ x : Int32, (∃ i, i < di ∧ b_inCoin (120 + i) = x) ↔ (∃ i, i < di ∧ a_inputCoin (3 * made + i) = x) := fun x => exists_congr fun i => and_congr_right fun hi => by
    have : a_inputCoin (3 * made + i) = b_inCoin (120 + i) := (d7 i hi).1
    rw [this]
  unfold wpX_input
  dsimp only
  refine xq_coin w (fun c hc ec hq => ?_) (fun hno => br_t rfl ?_)
  rotate_left
  · unfold wpY_input
    dsimp only
    refine yq_coin (gfe := a_feeOf) (grw := a_rewardAmount) wE (fun c hc ec hq => ?_) (fun _ => br_t rfl ⟨rfl, I'⟩)
    exact (hno c hc ec ((pd_ag_coin ag (Nat.le_refl _)).mp hq)).elim
  subst ec
  have goY : ∀ post : Int32 → SY → Prop, (∃ fuel, wY_input_14 post (nI c) v2 v3 (nI made) (nI blocks) (nI ar) (nI tp) (nI np) g_chainLength a_tokenOp a_tokenValue a_tokenCount b_ins b_inCoin b_inA b_inB b_outs b_amount b_lock b_parent b_work b_rewardLock b_height b_many b_holds b_delivered b_arrived a_poolRow b_chain b_from b_worth b_within b_spent b_stack b_again b_chosen fuel 120) → wpY_input post (nI made, nI blocks, nI ar, nI tp, nI np, g_chainLength, a_tokenOp, a_tokenValue, a_tokenCount, b_ins, b_inCoin, b_inA, b_inB, b_outs, b_amount, b_lock, b_parent, b_work, b_rewardLock, b_height, b_many, b_holds, b_delivered, b_arrived, a_poolRow, b_chain, b_from, b_worth, b_within, b_spent, b_stack, b_again, b_chosen) (nI c) v2 v3 := by
    intro post H
    unfold wpY_input
    dsimp only
    refine yq_coin (gfe := a_feeOf) (grw := a_rewardAmount) wE (fun _ _ _ _ => br_f (by decide) H) (fun hno => ?_)
    exact (hno c hc rfl ((pd_ag_coin ag (Nat.le_refl _)).mpr hq)).elim
  refine br_f (by decide) (xq_hasInput (by omega) d1 d3' (fun q => br_f (by decide) (goY _ ?_)) (fun q => br_t rfl ⟨pk_in made 41 (by omega), ?_⟩))
  · exact ym_inp14 d1 d4' (fun _ => ⟨rfl, I'⟩) (fun q' => (q' ((hsame _).mpr q)).elim) (fun q' => (q' ((hsame _).mpr q)).elim)
  · rw [emc]
    have e3 : nI made * 3 + a_inputCount made = nI (3 * made + di) := by rw [d3']; exact xb_3 made di
    refine pk_eq di 3 (fun e => goY _ (ym_inp14 d1 d4' (fun q' => (q ((hsame _).mp q')).elim) (fun _ _ => ⟨rfl, I'⟩) (fun _ q' => by omega))) (fun e => ⟨pk_in made 41 (by omega), nm_r e3 ⟨pk_in (3 * made + di) 123 (by omega), nm_r (by rw [pk_cl (x := nI (3 * made + di)) (3 * made + di)]) ⟨pk_in (3 * made + di) 123 (by omega), nm_r (by rw [pk_cl (x := nI (3 * made + di)) (3 * made + di)]) ⟨pk_in (3 * made + di) 123 (by omega), nm_r (by rw [pk_cl (x := nI (3 * made + di)) (3 * made + di)]) ⟨pk_in made 41 (by omega), pk_in made 41 (by omega), nm_r (by rw [d3', nI_1]) ⟨pk_in made 41 (by omega), goY _ ?_⟩⟩⟩⟩⟩⟩) d3'
    rw [pk_us]
    refine ym_inp14 d1 d4' (fun q' => (q ((hsame _).mp q')).elim) (fun _ q' => by omega) (fun _ _ => ⟨rfl, ?_⟩)
    have a := ag_inp (x := nI (di + 1)) (y := nI c) (z := v2) (q := v3) w (tt := made) (p := 3 * made + di) (Nat.le_refl _) (by omega)
    exact rl_mk w a tk (pd_ag_trans (pd_ag_symm a) (pd_ag_trans ag (ag_inp wE (by omega) (by omega)))) fq rq hp0 us (df_inp w hc hq (by omega) d3' q df) (pu_io pu) (fr_io fr) B RD eh hn hl P hS
theorem i_vc_output {k : Nat} {u : SX} {v : SY} (I : i_Rel k u v) (hk : k + 4 ≤ 2048) (v1 : Int32) (v2 : Int32) : wpX_output (fun r u' => wpY_output (fun r' v' => r' = r ∧ i_Rel (k + 4) u' v') v v1 v2) u v1 v2 := by
  obtain ⟨f_stackSize, f_transactions, f_putCount, f_blocks, f_tip, f_poolCount, f_queueCount, a_tokenCount, a_tokenOp, a_tokenValue, a_scriptInUse, a_stack, a_inputCount, a_inputCoin, a_inputA, a_inputB, a_outputCount, a_outputAmount, a_outputScript, a_feeOf, a_putRow, a_parentOf, a_heightOf, a_chainWork, a_blockState, a_rewardAmount, a_rewardScript, a_blockSize, a_blockTransaction, a_laidBlock, a_coinHeight, a_coinSpent, a_transactionHeight, a_poolRow, a_marked, a_queue⟩ := u
  obtain ⟨g_made, g_blocks, g_arrivals, g_tip, g_pooled, g_chainLength, b_op, b_arg, b_length, b_ins, b_inCoin, b_inA, b_inB, b_outs, b_amount, b_lock, b_parent, b_work, b_rewardLock, b_height, b_many, b_holds, b_delivered, b_arrived, b_pool, b_chain, b_from, b_worth, b_within, b_spent, b_stack, b_again, b_chosen⟩ := v
  have I' := I
  obtain ⟨made, blocks, tp, n, np, pc, ar, ⟨rfl, rfl, rfl, rfl, rfl⟩, ⟨rfl, rfl, rfl, rfl, rfl⟩, ⟨rfl, rfl, rfl, rfl⟩, ⟨rfl, rfl, rfl⟩, ST, B, RD, ⟨eh, hn⟩, hl, P, hS⟩ := I
  obtain ⟨tk, w, ag, fq, rq, hp0, us, df, pu, fr⟩ := ST
  have hm := w.2.2.1
  have wE := pd_wf_ag w ag
  have df' := df
  obtain ⟨di, od, d1, d2, d3, d4, d5, d6, d7, d8, d9, d10⟩ := df'
  have d5' : a_outputCount made = nI od := d5
  have d6' : b_outs 40 = nI od := d6
  have emc : (nI made).toNatClampNeg = made := pk_cl made
  refine br_c (fun z => br_t z ⟨rfl, I'⟩) (fun z => br_c (fun z1 => br_f z (br_t z1 ⟨rfl, I'⟩)) (fun z1 => ?_))
  rcases pk_ix v2 (n := 8) (by omega) with h | h | ⟨s, hs, rfl⟩
  · exact br_t h (br_t rfl (br_f z (br_f z1 (br_t h (br_t rfl ⟨rfl, I'⟩)))))
  · have h0 : ¬ v2 < 0 := Int32.not_lt.mpr (Int32.le_trans (by decide) h)
    exact br_f h0 (br_t h (br_t rfl (br_f z (br_f z1 (br_f h0 (br_t h (br_t rfl ⟨rfl, I'⟩)))))))
  have s0 : ¬ nI s < 0 := nI_pos (by omega)
  have s8 : ¬ (8 : Int32) ≤ nI s := nI_ge (b := 8) hs (by omega)
  refine br_f s0 (br_f s8 (br_f (by decide) ⟨pk_in made 41 (by omega), ?_⟩))
  rw [emc]
  have e3 : nI made * 3 + a_outputCount made = nI (3 * made + od) := by rw [d5']; exact xb_3 made od
  have e120 : (120 : Int32) + b_outs 40 = nI (120 + od) := by rw [d6']; exact nI_add 120 od
  refine pk_eq od 3 (fun e => br_f z (br_f z1 (br_f s0 (br_f s8 (br_f (by decide) (br_t (by rw [d6', e]; rfl) ⟨rfl, I'⟩)))))) (fun e => ⟨pk_in made 41 (by omega), nm_r e3 ⟨pk_in (3 * made + od) 123 (by omega), nm_r (by rw [pk_cl (x := nI (3 * made + od)) (3 * made + od)]) ⟨pk_in (3 * made + od) 123 (by omega), nm_r (by rw [pk_cl (x := nI (3 * made + od)) (3 * made + od)]) ⟨pk_in made 41 (by omega), pk_in made 41 (by omega), nm_r (by rw [d5', nI_1]) ⟨pk_in made 41 (by omega), br_f z (br_f z1 (br_f s0 (br_f s8 (br_f (by decide) (br_f (by rw [d6']; intro q; exact e ((nI_eq (b := 3) (by omega) (by omega)).mp q)) (nm_r e120 ⟨pk_in (120 + od) 123 (by omega), nm_r (by rw [pk_cl (x := nI (120 + od)) (120 + od)]) ⟨pk_in (120 + od) 123 (by omega), nm_r (by rw [pk_cl (x := nI (120 + od)) (120 + od)]) (nm_r (by rw [d6', nI_1]) ⟨?_, ?_⟩)⟩⟩))))))⟩⟩⟩⟩⟩) d5'
  · rw [pk_us, pk_us]
  · have a := ag_out (x := nI (od + 1)) (y := v1) (z := nI s) w (tt := made) (p := 3 * made + od) (Nat.le_refl _) (by omega)
    exact rl_mk w a tk (pd_ag_trans (pd_ag_symm a) (pd_ag_trans ag (ag_out wE (by omega) (by omega)))) fq rq hp0 us (df_out w hs (by omega) d5' df) (pu_io pu) (fr_io fr) B RD eh hn hl P hS
end
section
/-! make -/
def us_set (os : pd_F) (base : Nat) (use : pd_F) : Nat → pd_F
  | 0 => use
  | n + 1 => upd (us_set os base use n) (os (base + n)).toNatClampNeg 1
theorem us_set_or (os use : pd_F) (base s : Nat) : ∀ n, (us_set os base use n s = 1 ∧ ∃ o, o < n ∧ (os (base + o)).toNatClampNeg = s) ∨ (us_set os base use n s = use s ∧ ¬ ∃ o, o < n ∧ (os (base + o)).toNatClampNeg = s) := by
  intro n
  induction n with
  | zero => exact Or.inr ⟨rfl, fun ⟨o, h, _⟩ => by omega⟩
  | succ n ih =>
    by_cases e : s = (os (base + n)).toNatClampNeg
    · left
      refine ⟨?_, n, by omega, e.symm⟩
      rw [us_set, ← e, pk_us]
    · rw [us_set, pk_un e]
      rcases ih with ⟨h1, o, h2, h3⟩ | ⟨h1, h2⟩
      · exact Or.inl ⟨h1, o, by omega, h3⟩
      · refine Or.inr ⟨h1, fun ⟨o, q1, q2⟩ => ?_⟩
        by_cases e' : o = n
        · subst e'; exact e q2.symm
        · exact h2 ⟨o, by omega, q2⟩
def cp_set (f : pd_F) (base : Nat) : Nat → pd_F
  | 0 => f
  | k + 1 => upd (cp_set f base k) (base + k) (cp_set f base k (120 + k))
theorem cp_no {f : pd_F} {base j : Nat} : ∀ n, ¬ (base ≤ j ∧ j < base + n) → cp_set f base n j = f j := by
  intro n
  induction n with
  | zero => intro _; rfl
  | succ n ih => intro h; rw [cp_set, pk_un (by omega)]; exact ih (by omega)
theorem cp_in {f : pd_F} {base i : Nat} (hb : base + 3 ≤ 120) : ∀ n, n ≤ 3 → i < n → cp_set f base n (base + i) = f (120 + i) := by
  intro n
  induction n with
  | zero => intro _ h; omega
  | succ n ih =>
    intro hn hi
    by_cases e : i = n
    · subst e
      rw [cp_set, pk_us, cp_no i (by omega)]
    · rw [cp_set, pk_un (by omega)]; exact ih (by omega) (by omega)
theorem wf_ext {D : pd_D} {made blocks : Nat} (w : pd_wf D made blocks) (h : made + 1 ≤ 40) (t : pd_wfT D blocks made) : pd_wf D (made + 1) blocks := by
  obtain ⟨w1, w2, w3, w4, wT, wB⟩ := w
  refine ⟨w1, w2, h, w4, fun t' ht' => ?_, fun b hb => ?_⟩
  · by_cases e : t' = made
    · subst e; exact t
    · exact wT t' (by omega)
  · obtain ⟨q1, q2, ⟨n, n1, n2, n3⟩, q4⟩ := wB b hb
    refine ⟨q1, q2, ⟨n, n1, n2, fun i hi => ?_⟩, q4⟩
    obtain ⟨t', t1, t2⟩ := n3 i hi
    exact ⟨t', by omega, t2⟩
theorem ag_ext {D E : pd_D} {made blocks : Nat} (a : pd_ag D E made blocks) (t : pd_agT D E made) (s : ∀ s, pd_agS D E s) : pd_ag D E (made + 1) blocks := by
  refine ⟨fun t' ht' => ?_, a.2.1, fun s' _ => s s'⟩
  by_cases e : t' = made
  · subst e; exact t
  · exact a.1 t' (by omega)
section
variable {f_stackSize f_transactions f_putCount f_blocks f_tip f_poolCount f_queueCount : Int32} {a_tokenCount a_tokenOp a_tokenValue a_scriptInUse a_stack a_inputCount a_inputCoin a_inputA a_inputB a_outputCount a_outputAmount a_outputScript a_feeOf a_putRow a_parentOf a_heightOf a_chainWork a_blockState a_rewardAmount a_rewardScript a_blockSize a_blockTransaction a_laidBlock a_coinHeight a_coinSpent a_transactionHeight a_poolRow a_marked a_queue : Nat → Int32}
theorem ag_fee {made blocks : Nat} {fe' : Nat → Int32} (hf : ∀ t, t < made → fe' t = a_feeOf t) : pd_ag (a_tokenCount, a_tokenOp, a_tokenValue, a_inputCount, a_inputCoin, a_inputA, a_inputB, a_outputCount, a_outputAmount, a_outputScript, a_parentOf, a_heightOf, a_rewardScript, a_blockSize, a_blockTransaction, a_feeOf, a_rewardAmount) (a_tokenCount, a_tokenOp, a_tokenValue, a_inputCount, a_inputCoin, a_inputA, a_inputB, a_outputCount, a_outputAmount, a_outputScript, a_parentOf, a_heightOf, a_rewardScript, a_blockSize, a_blockTransaction, fe', a_rewardAmount) made blocks :=
  ⟨fun t ht => ⟨rfl, rfl, hf t ht, fun _ _ => ⟨rfl, rfl, rfl⟩, fun _ _ => ⟨rfl, rfl⟩⟩, fun b _ => ⟨rfl, rfl, rfl, rfl, fun _ => rfl, fun _ _ => rfl⟩, fun s _ => ⟨rfl, fun _ _ => ⟨rfl, rfl⟩⟩⟩
theorem ag_cpy {made blocks : Nat} {fe' c1 c2 c3 c4 c5 c6 c7 : Nat → Int32} (w : pd_wf (a_tokenCount, a_tokenOp, a_tokenValue, a_inputCount, a_inputCoin, a_inputA, a_inputB, a_outputCount, a_outputAmount, a_outputScript, a_parentOf, a_heightOf, a_rewardScript, a_blockSize, a_blockTransaction, a_feeOf, a_rewardAmount) made blocks) (hf : ∀ t, t < made → fe' t = a_feeOf t) (h1 : ∀ t, t < made → c1 t = a_inputCount t) (h5 : ∀ t, t < made → c5 t = a_outputCount t) (h2 : ∀ j, j < 3 * made → c2 j = a_inputCoin j) (h3 : ∀ j, j < 3 * made → c3 j = a_inputA j) (h4 : ∀ j, j < 3 * made → c4 j = a_inputB j) (h6 : ∀ j, j < 3 * made → c6 j = a_outputAmount j) (h7 : ∀ j, j < 3 * made → c7 j = a_outputScript j) :
    pd_ag (a_tokenCount, a_tokenOp, a_tokenValue, a_inputCount, a_inputCoin, a_inputA, a_inputB, a_outputCount, a_outputAmount, a_outputScript, a_parentOf, a_heightOf, a_rewardScript, a_blockSize, a_blockTransaction, a_feeOf, a_rewardAmount) (a_tokenCount, a_tokenOp, a_tokenValue, c1, c2, c3, c4, c5, c6, c7, a_parentOf, a_heightOf, a_rewardScript, a_blockSize, a_blockTransaction, fe', a_rewardAmount) made blocks := by
  refine ⟨fun t ht => ?_, fun b _ => ⟨rfl, rfl, rfl, rfl, fun _ => rfl, fun _ _ => rfl⟩, fun s _ => ⟨rfl, fun _ _ => ⟨rfl, rfl⟩⟩⟩
  obtain ⟨n, m, _, hn, _, hm3, en, em, _⟩ := w.2.2.2.2.1 _ ht
  have enc := pd_cl en (by omega)
  have emc := pd_cl em (by omega)
  exact ⟨h1 t ht, h5 t ht, hf t ht, fun i hi => ⟨h2 _ (by omega), h3 _ (by omega), h4 _ (by omega)⟩, fun o ho => ⟨h6 _ (by omega), h7 _ (by omega)⟩⟩
theorem xm_feeDraft {made di od : Nat} (hm : made ≤ 40) (h1 : di ≤ 3) (h2 : od ≤ 3) (e1 : a_inputCount made = nI di) (e2 : a_outputCount made = nI od) (hc : ∀ i, i < di → ∃ c, c < 152 ∧ a_inputCoin (3 * made + i) = nI c) {post : Int32 → Prop}
    (H : post (pd_sout (pd_sin (pd_amt (a_tokenCount, a_tokenOp, a_tokenValue, a_inputCount, a_inputCoin, a_inputA, a_inputB, a_outputCount, a_outputAmount, a_outputScript, a_parentOf, a_heightOf, a_rewardScript, a_blockSize, a_blockTransaction, a_feeOf, a_rewardAmount)) a_inputCoin (3 * made) di) a_outputAmount (3 * made) od)) : wpX_feeOfDraft post (f_stackSize, nI made, f_putCount, f_blocks, f_tip, f_poolCount, f_queueCount, a_tokenCount, a_tokenOp, a_tokenValue, a_scriptInUse, a_stack, a_inputCount, a_inputCoin, a_inputA, a_inputB, a_outputCount, a_outputAmount, a_outputScript, a_feeOf, a_putRow, a_parentOf, a_heightOf, a_chainWork, a_blockState, a_rewardAmount, a_rewardScript, a_blockSize, a_blockTransaction, a_laidBlock, a_coinHeight, a_coinSpent, a_transactionHeight, a_poolRow, a_marked, a_queue) := by
  have emc : (nI made).toNatClampNeg = made := pk_cl made
  have e1c : a_inputCount (nI made).toNatClampNeg = nI di := by rw [emc]; exact e1
  have e2c : a_outputCount (nI made).toNatClampNeg = nI od := by rw [emc]; exact e2
  have L47 : ∀ (d i fuel : Nat), i + d = od → d < fuel → wX_feeOfDraft_47 post (nI (3 * made)) f_stackSize (nI made) f_putCount f_blocks f_tip f_poolCount f_queueCount a_tokenCount a_tokenOp a_tokenValue a_scriptInUse a_stack a_inputCount a_inputCoin a_inputA a_inputB a_outputCount a_outputAmount a_outputScript a_feeOf a_putRow a_parentOf a_heightOf a_chainWork a_blockState a_rewardAmount a_rewardScript a_blockSize a_blockTransaction a_laidBlock a_coinHeight a_coinSpent a_transactionHeight a_poolRow a_marked a_queue fuel (pd_sout (pd_sin (pd_amt (a_tokenCount, a_tokenOp, a_tokenValue, a_inputCount, a_inputCoin, a_inputA, a_inputB, a_outputCount, a_outputAmount, a_outputScript, a_parentOf, a_heightOf, a_rewardScript, a_blockSize, a_blockTransaction, a_feeOf, a_rewardAmount)) a_inputCoin (3 * made) di) a_outputAmount (3 * made) i) (nI i) := by
    intro d
    induction d with
    | zero =>
      intro i fuel hi hf
      obtain ⟨fuel, rfl⟩ : ∃ q, fuel = q + 1 := ⟨fuel - 1, by omega⟩
      obtain rfl : i = od := by omega
      exact ⟨pk_in made 41 (by omega), br_t (by rw [e2c]; exact nI_le (Nat.le_refl _) (by omega)) H⟩
    | succ d ih =>
      intro i fuel hi hf
      obtain ⟨fuel, rfl⟩ : ∃ q, fuel = q + 1 := ⟨fuel - 1, by omega⟩
      exact ⟨pk_in made 41 (by omega), pk_le od i (fun z => by omega) (fun z => ⟨pk_in (3 * made + i) 123 (by omega) (nI_add _ _), nm_r (by rw [pk_cl (3 * made + i) (nI_add _ _)] <;> rfl) (nm_r (nI_1 i) (ih (i + 1) fuel (by omega) (by omega)))⟩) e2c⟩
  have L11 : ∀ (d i fuel : Nat), i + d = di → d < fuel → wX_feeOfDraft_11 post (nI (3 * made)) f_stackSize (nI made) f_putCount f_blocks f_tip f_poolCount f_queueCount a_tokenCount a_tokenOp a_tokenValue a_scriptInUse a_stack a_inputCount a_inputCoin a_inputA a_inputB a_outputCount a_outputAmount a_outputScript a_feeOf a_putRow a_parentOf a_heightOf a_chainWork a_blockState a_rewardAmount a_rewardScript a_blockSize a_blockTransaction a_laidBlock a_coinHeight a_coinSpent a_transactionHeight a_poolRow a_marked a_queue fuel (pd_sin (pd_amt (a_tokenCount, a_tokenOp, a_tokenValue, a_inputCount, a_inputCoin, a_inputA, a_inputB, a_outputCount, a_outputAmount, a_outputScript, a_parentOf, a_heightOf, a_rewardScript, a_blockSize, a_blockTransaction, a_feeOf, a_rewardAmount)) a_inputCoin (3 * made) i) (nI i) := by
    intro d
    induction d with
    | zero =>
      intro i fuel hi hf
      obtain ⟨fuel, rfl⟩ : ∃ q, fuel = q + 1 := ⟨fuel - 1, by omega⟩
      obtain rfl : i = di := by omega
      exact ⟨pk_in made 41 (by omega), br_t (by rw [e1c]; exact nI_le (Nat.le_refl _) (by omega)) ⟨od + 1, L47 od 0 (od + 1) (by omega) (by omega)⟩⟩
    | succ d ih =>
      intro i fuel hi hf
      obtain ⟨fuel, rfl⟩ : ∃ q, fuel = q + 1 := ⟨fuel - 1, by omega⟩
      obtain ⟨c, hc1, hc2⟩ := hc i (by omega)
      have hnx := ih (i + 1) fuel (by omega) (by omega)
      rw [pd_sin, hc2, nI_clamp (by omega)] at hnx
      refine ⟨pk_in made 41 (by omega), pk_le di i (fun z => by omega) (fun z => ⟨pk_in (3 * made + i) 123 (by omega) (nI_add _ _), ?_⟩) e1c⟩
      rw [pk_cl (3 * made + i) (nI_add _ _), hc2]
      exact xm_amountOf hc1 (nm_e (nm_r (nI_1 i) hnx))
  have e3 : nI made * 3 = nI (3 * made) := by rw [show (3 : Int32) = nI 3 from rfl, pk_mul, Nat.mul_comm]
  exact nm_r e3 ⟨di + 1, L11 di 0 (di + 1) (by omega) (by omega)⟩
theorem xm_make46 {made od : Nat} (hm : made < 40) (h2 : od ≤ 3) (e2 : a_outputCount made = nI od) (hs : ∀ o, o < od → ∃ s, s < 8 ∧ a_outputScript (3 * made + o) = nI s) {post : Int32 → SX → Prop}
    (H : post (nI made) (f_stackSize, nI (made + 1), f_putCount, f_blocks, f_tip, f_poolCount, f_queueCount, a_tokenCount, a_tokenOp, a_tokenValue, us_set a_outputScript (3 * made) a_scriptInUse od, a_stack, a_inputCount, a_inputCoin, a_inputA, a_inputB, a_outputCount, a_outputAmount, a_outputScript, a_feeOf, a_putRow, a_parentOf, a_heightOf, a_chainWork, a_blockState, a_rewardAmount, a_rewardScript, a_blockSize, a_blockTransaction, a_laidBlock, a_coinHeight, a_coinSpent, a_transactionHeight, a_poolRow, a_marked, a_queue)) : ∃ fuel, wX_make_46 post (nI made) f_stackSize (nI made) f_putCount f_blocks f_tip f_poolCount f_queueCount fuel 0 a_tokenCount a_tokenOp a_tokenValue a_scriptInUse a_stack a_inputCount a_inputCoin a_inputA a_inputB a_outputCount a_outputAmount a_outputScript a_feeOf a_putRow a_parentOf a_heightOf a_chainWork a_blockState a_rewardAmount a_rewardScript a_blockSize a_blockTransaction a_laidBlock a_coinHeight a_coinSpent a_transactionHeight a_poolRow a_marked a_queue := by
  have e2c : a_outputCount (nI made).toNatClampNeg = nI od := by rw [pk_cl made]; exact e2
  have key : ∀ (d i fuel : Nat), i + d = od → d < fuel → wX_make_46 post (nI made) f_stackSize (nI made) f_putCount f_blocks f_tip f_poolCount f_queueCount fuel (nI i) a_tokenCount a_tokenOp a_tokenValue (us_set a_outputScript (3 * made) a_scriptInUse i) a_stack a_inputCount a_inputCoin a_inputA a_inputB a_outputCount a_outputAmount a_outputScript a_feeOf a_putRow a_parentOf a_heightOf a_chainWork a_blockState a_rewardAmount a_rewardScript a_blockSize a_blockTransaction a_laidBlock a_coinHeight a_coinSpent a_transactionHeight a_poolRow a_marked a_queue := by
    intro d
    induction d with
    | zero =>
      intro i fuel hi hf
      obtain ⟨fuel, rfl⟩ : ∃ q, fuel = q + 1 := ⟨fuel - 1, by omega⟩
      obtain rfl : i = od := by omega
      exact ⟨pk_in made 41 (by omega), br_t (by rw [e2c]; exact nI_le (Nat.le_refl _) (by omega)) (nm_r (nI_1 made) H)⟩
    | succ d ih =>
      intro i fuel hi hf
      obtain ⟨fuel, rfl⟩ : ∃ q, fuel = q + 1 := ⟨fuel - 1, by omega⟩
      obtain ⟨s, hs1, hs2⟩ := hs i (by omega)
      refine ⟨pk_in made 41 (by omega), pk_le od i (fun z => by omega) (fun z => ⟨pk_in (3 * made + i) 123 (by omega) (xb_3 made i), nm_r ((congrArg a_outputScript (pk_cl (3 * made + i) (xb_3 made i))).trans hs2) ⟨pk_in s 8 hs1, nm_r (e' := us_set a_outputScript (3 * made) a_scriptInUse (i + 1)) ?_ (nm_r (nI_1 i) (ih (i + 1) fuel (by omega) (by omega)))⟩⟩) e2c⟩
      rw [us_set, hs2]; rfl
  exact ⟨od + 1, key od 0 (od + 1) (by omega) (by omega)⟩
end
section
variable {g_made g_blocks g_arrivals g_tip g_pooled g_chainLength : Int32} {b_op b_arg b_length b_ins b_inCoin b_inA b_inB b_outs b_amount b_lock b_parent b_work b_rewardLock b_height b_many b_holds b_delivered b_arrived b_pool b_chain b_from b_worth b_within b_spent b_stack b_again b_chosen gfe grw : Nat → Int32}
theorem ym_make68 {made : Nat} (hm : made < 40) {post : Int32 → SY → Prop}
    (H : post (nI made) (nI (made + 1), g_blocks, g_arrivals, g_tip, g_pooled, g_chainLength, b_op, b_arg, b_length, upd b_ins 40 0, cp_set b_inCoin (3 * made) 3, cp_set b_inA (3 * made) 3, cp_set b_inB (3 * made) 3, upd b_outs 40 0, cp_set b_amount (3 * made) 3, cp_set b_lock (3 * made) 3, b_parent, b_work, b_rewardLock, b_height, b_many, b_holds, b_delivered, b_arrived, b_pool, b_chain, b_from, b_worth, b_within, b_spent, b_stack, b_again, b_chosen)) : ∃ fuel, wY_make_68 post (nI made) g_blocks g_arrivals g_tip g_pooled g_chainLength fuel 0 b_op b_arg b_length b_ins b_inCoin b_inA b_inB b_outs b_amount b_lock b_parent b_work b_rewardLock b_height b_many b_holds b_delivered b_arrived b_pool b_chain b_from b_worth b_within b_spent b_stack b_again b_chosen := by
  have key : ∀ (d i fuel : Nat), i + d = 3 → d < fuel → wY_make_68 post (nI made) g_blocks g_arrivals g_tip g_pooled g_chainLength fuel (nI i) b_op b_arg b_length b_ins (cp_set b_inCoin (3 * made) i) (cp_set b_inA (3 * made) i) (cp_set b_inB (3 * made) i) b_outs (cp_set b_amount (3 * made) i) (cp_set b_lock (3 * made) i) b_parent b_work b_rewardLock b_height b_many b_holds b_delivered b_arrived b_pool b_chain b_from b_worth b_within b_spent b_stack b_again b_chosen := by
    intro d
    induction d with
    | zero =>
      intro i fuel hi hf
      obtain ⟨fuel, rfl⟩ : ∃ q, fuel = q + 1 := ⟨fuel - 1, by omega⟩
      obtain rfl : i = 3 := by omega
      refine br_t (by decide) (nm_e (nm_e (nm_r (nI_1 made) ?_)))
      rw [nI_pred]
      exact H
    | succ d ih =>
      intro i fuel hi hf
      obtain ⟨fuel, rfl⟩ : ∃ q, fuel = q + 1 := ⟨fuel - 1, by omega⟩
      have i1 : vp_in (120 + nI i) 123 := pk_in (120 + i) 123 (by omega) (nI_add 120 i)
      have i2 : vp_in (3 * nI made + nI i) 123 := pk_in (3 * made + i) 123 (by omega) (yb_3 made i)
      have c1 : ((120 : Int32) + nI i).toNatClampNeg = 120 + i := pk_cl (120 + i) (nI_add 120 i)
      have c2 : (3 * nI made + nI i).toNatClampNeg = 3 * made + i := pk_cl (3 * made + i) (yb_3 made i)
      refine pk_le 3 i (fun z => by omega) (fun z => ⟨i1, i2, nm_r (by rw [c1, c2] <;> rfl) ⟨i1, i2, nm_r (by rw [c1, c2] <;> rfl) ⟨i1, i2, nm_r (by rw [c1, c2] <;> rfl) ⟨i1, i2, nm_r (by rw [c1, c2] <;> rfl) ⟨i1, i2, nm_r (by rw [c1, c2] <;> rfl) (nm_r (nI_1 i) (ih (i + 1) fuel (by omega) (by omega)))⟩⟩⟩⟩⟩)
  exact ⟨4, key 3 0 4 (by omega) (by omega)⟩
end
/-- the draft as a transaction -/
def dr_tx (D E : pd_D) (made blocks di od : Nat) : Prop := pd_ic D made = nI di ∧ pd_oc D made = nI od ∧ pd_ic E 40 = nI di ∧ pd_oc E 40 = nI od
    ∧ (∀ i, i < di → pd_co D (3 * made + i) = pd_co E (120 + i) ∧ pd_ia D (3 * made + i) = pd_ia E (120 + i) ∧ pd_ib D (3 * made + i) = pd_ib E (120 + i) ∧ ∃ c, c < 152 ∧ pd_co D (3 * made + i) = nI c ∧ pd_coin D made blocks c)
    ∧ (∀ i j, i < di → j < di → pd_co D (3 * made + i) = pd_co D (3 * made + j) → i = j)
    ∧ (∀ o, o < od → pd_oa D (3 * made + o) = pd_oa E (120 + o) ∧ pd_os D (3 * made + o) = pd_os E (120 + o) ∧ ∃ s, s < 8 ∧ pd_os D (3 * made + o) = nI s)
theorem rm_wT {D : pd_D} {E : pd_D} {made blocks di od : Nat} (d1 : di ≤ 3) (d2 : od ≤ 3) (hi0 : 0 < di) (ho0 : 0 < od) (d : dr_tx D E made blocks di od) : pd_wfT D blocks made := by
  obtain ⟨e1, e2, _, _, d7, d8, d9⟩ := d
  refine ⟨di, od, hi0, d1, ho0, d2, e1, e2, fun i hi => ?_, d8, fun o ho => ?_⟩
  · obtain ⟨_, _, _, c, c1, c2, c3⟩ := d7 i hi
    exact ⟨c, c1, c2, c3⟩
  · obtain ⟨_, _, s, s1, s2⟩ := d9 o ho
    exact ⟨s, s1, s2⟩
theorem rm_us {D : pd_D} {E : pd_D} {made blocks di od : Nat} {use use' : pd_F} (d2 : od ≤ 3) (d : dr_tx D E made blocks di od) (us : cn_used D use made blocks)
    (hu : ∀ s, (use' s = 1 ∧ ∃ o, o < od ∧ (pd_os D (3 * made + o)).toNatClampNeg = s) ∨ (use' s = use s ∧ ¬ ∃ o, o < od ∧ (pd_os D (3 * made + o)).toNatClampNeg = s)) : cn_used D use' (made + 1) blocks := by
  obtain ⟨e1, e2, _, _, d7, d8, d9⟩ := d
  have eoc : (pd_oc D made).toNatClampNeg = od := pd_cl e2 (by omega)
  intro s hs
  have hiff : pd_used D (made + 1) blocks s ↔ (pd_used D made blocks s ∨ ∃ o, o < od ∧ (pd_os D (3 * made + o)).toNatClampNeg = s) := by
    constructor
    · rintro (⟨b, h1, h2⟩ | ⟨t, o, h1, h2, h3⟩)
      · exact Or.inl (Or.inl ⟨b, h1, h2⟩)
      · by_cases e : t = made
        · subst e
          exact Or.inr ⟨o, by omega, by rw [h3]; exact pk_cl s⟩
        · exact Or.inl (Or.inr ⟨t, o, by omega, h2, h3⟩)
    · rintro ((⟨b, h1, h2⟩ | ⟨t, o, h1, h2, h3⟩) | ⟨o, h1, h2⟩)
      · exact Or.inl ⟨b, h1, h2⟩
      · exact Or.inr ⟨t, o, by omega, h2, h3⟩
      · obtain ⟨_, _, s', s1, s2⟩ := d9 o h1
        refine Or.inr ⟨made, o, by omega, by omega, ?_⟩
        rw [s2, pk_cl (x := nI s') s'] at h2
        rw [s2, h2]
  rw [hiff]
  rcases hu s with ⟨h1, h2⟩ | ⟨h1, h2⟩
  · exact Or.inr ⟨h1, Or.inr h2⟩
  · rw [h1]
    rcases us s hs with ⟨q1, q2⟩ | ⟨q1, q2⟩
    · exact Or.inl ⟨q1, fun q => by rcases q with q | q; exact q2 q; exact h2 q⟩
    · exact Or.inr ⟨q1, Or.inl q2⟩
theorem rm_fq {D : pd_D} {made di od : Nat} (d1 : di ≤ 3) (d2 : od ≤ 3) (e1 : pd_ic D made = nI di) (e2 : pd_oc D made = nI od) (fq : pd_feq D made) (hfm : pd_fe D made = pd_sout (pd_sin (pd_amt D) (pd_co D) (3 * made) di) (pd_oa D) (3 * made) od) : pd_feq D (made + 1) := by
  intro t ht
  by_cases e : t = made
  · subst e
    rw [hfm, pd_cl e1 (by omega), pd_cl e2 (by omega)]
  · exact fq t (by omega)
theorem rm_aT {D E F : pd_D} {made blocks di od : Nat} (d1 : di ≤ 3) (d2 : od ≤ 3) (d : dr_tx D E made blocks di od) (hf : pd_fe F made = pd_fe D made) (h1 : pd_ic F made = pd_ic E 40) (h5 : pd_oc F made = pd_oc E 40)
    (h2 : ∀ i, i < 3 → pd_co F (3 * made + i) = pd_co E (120 + i)) (h3 : ∀ i, i < 3 → pd_ia F (3 * made + i) = pd_ia E (120 + i)) (h4 : ∀ i, i < 3 → pd_ib F (3 * made + i) = pd_ib E (120 + i)) (h6 : ∀ i, i < 3 → pd_oa F (3 * made + i) = pd_oa E (120 + i)) (h7 : ∀ i, i < 3 → pd_os F (3 * made + i) = pd_os E (120 + i)) : pd_agT D F made := by
  obtain ⟨e1, e2, e3, e4, d7, d8, d9⟩ := d
  refine ⟨h1.trans (e3.trans e1.symm), h5.trans (e4.trans e2.symm), hf, fun i hi => ?_, fun o ho => ?_⟩
  · rw [pd_cl e1 (by omega)] at hi
    obtain ⟨q1, q2, q3, _⟩ := d7 i hi
    exact ⟨(h2 i (by omega)).trans q1.symm, (h3 i (by omega)).trans q2.symm, (h4 i (by omega)).trans q3.symm⟩
  · rw [pd_cl e2 (by omega)] at ho
    obtain ⟨q1, q2, _⟩ := d9 o ho
    exact ⟨(h6 o (by omega)).trans q1.symm, (h7 o (by omega)).trans q2.symm⟩
theorem rm_df {D F : pd_D} {made blocks : Nat} (h40 : made + 1 ≤ 40) (d10 : ∀ t, made < t → t ≤ 40 → pd_ic D t = 0 ∧ pd_oc D t = 0) (h1 : pd_ic F 40 = 0) (h2 : pd_oc F 40 = 0) : cn_drf D F (made + 1) blocks :=
  ⟨0, 0, by omega, by omega, (d10 (made + 1) (by omega) h40).1, h1, (d10 (made + 1) (by omega) h40).2, h2, fun i hi => by omega, fun i j hi => by omega, fun o ho => by omega, fun t g1 g2 => d10 t (by omega) g2⟩
theorem rm_pu {D E D' E' : pd_D} {made pc : Nat} {pr : pd_F} (h1 : pd_bs E' = pd_bs E) (h2 : pd_bt E' = pd_bt E) (p : cn_put D E pr made pc) : cn_put D' E' pr (made + 1) pc := by
  obtain ⟨p1, p2, p3⟩ := p
  refine ⟨p1, by rw [h1]; exact p2, fun i hi => ?_⟩
  obtain ⟨q1, t, q2, q3⟩ := p3 i hi
  exact ⟨by rw [h2]; exact q1, t, by omega, q3⟩
section
variable {f_stackSize f_transactions f_putCount f_blocks f_tip f_poolCount f_queueCount : Int32} {a_tokenCount a_tokenOp a_tokenValue a_scriptInUse a_stack a_inputCount a_inputCoin a_inputA a_inputB a_outputCount a_outputAmount a_outputScript a_feeOf a_putRow a_parentOf a_heightOf a_chainWork a_blockState a_rewardAmount a_rewardScript a_blockSize a_blockTransaction a_laidBlock a_coinHeight a_coinSpent a_transactionHeight a_poolRow a_marked a_queue : Nat → Int32}
variable {g_made g_blocks g_arrivals g_tip g_pooled g_chainLength : Int32} {b_op b_arg b_length b_ins b_inCoin b_inA b_inB b_outs b_amount b_lock b_parent b_work b_rewardLock b_height b_many b_holds b_delivered b_arrived b_pool b_chain b_from b_worth b_within b_spent b_stack b_again b_chosen gfe grw : Nat → Int32}
theorem rl_make {D : pd_D} {k made blocks tp n np pc ar : Nat} (w : pd_wf D made blocks) (a : pd_ag D (a_tokenCount, a_tokenOp, a_tokenValue, a_inputCount, a_inputCoin, a_inputA, a_inputB, a_outputCount, a_outputAmount, a_outputScript, a_parentOf, a_heightOf, a_rewardScript, a_blockSize, a_blockTransaction, a_feeOf, a_rewardAmount) made blocks) (w2 : pd_wf (a_tokenCount, a_tokenOp, a_tokenValue, a_inputCount, a_inputCoin, a_inputA, a_inputB, a_outputCount, a_outputAmount, a_outputScript, a_parentOf, a_heightOf, a_rewardScript, a_blockSize, a_blockTransaction, a_feeOf, a_rewardAmount) (made + 1) blocks) (aE : pd_ag (a_tokenCount, a_tokenOp, a_tokenValue, a_inputCount, a_inputCoin, a_inputA, a_inputB, a_outputCount, a_outputAmount, a_outputScript, a_parentOf, a_heightOf, a_rewardScript, a_blockSize, a_blockTransaction, a_feeOf, a_rewardAmount) (a_tokenCount, a_tokenOp, a_tokenValue, b_ins, b_inCoin, b_inA, b_inB, b_outs, b_amount, b_lock, b_parent, b_height, b_rewardLock, b_many, b_holds, a_feeOf, a_rewardAmount) (made + 1) blocks) (tk : fx_tok a_tokenCount a_tokenOp a_tokenValue) (fq : pd_feq (a_tokenCount, a_tokenOp, a_tokenValue, a_inputCount, a_inputCoin, a_inputA, a_inputB, a_outputCount, a_outputAmount, a_outputScript, a_parentOf, a_heightOf, a_rewardScript, a_blockSize, a_blockTransaction, a_feeOf, a_rewardAmount) (made + 1)) (rq : pd_req D blocks) (hp0 : b_parent 0 = -1) (us : cn_used (a_tokenCount, a_tokenOp, a_tokenValue, a_inputCount, a_inputCoin, a_inputA, a_inputB, a_outputCount, a_outputAmount, a_outputScript, a_parentOf, a_heightOf, a_rewardScript, a_blockSize, a_blockTransaction, a_feeOf, a_rewardAmount) a_scriptInUse (made + 1) blocks)
    (df : cn_drf (a_tokenCount, a_tokenOp, a_tokenValue, a_inputCount, a_inputCoin, a_inputA, a_inputB, a_outputCount, a_outputAmount, a_outputScript, a_parentOf, a_heightOf, a_rewardScript, a_blockSize, a_blockTransaction, a_feeOf, a_rewardAmount) (a_tokenCount, a_tokenOp, a_tokenValue, b_ins, b_inCoin, b_inA, b_inB, b_outs, b_amount, b_lock, b_parent, b_height, b_rewardLock, b_many, b_holds, a_feeOf, a_rewardAmount) (made + 1) blocks) (pu : cn_put (a_tokenCount, a_tokenOp, a_tokenValue, a_inputCount, a_inputCoin, a_inputA, a_inputB, a_outputCount, a_outputAmount, a_outputScript, a_parentOf, a_heightOf, a_rewardScript, a_blockSize, a_blockTransaction, a_feeOf, a_rewardAmount) (a_tokenCount, a_tokenOp, a_tokenValue, b_ins, b_inCoin, b_inA, b_inB, b_outs, b_amount, b_lock, b_parent, b_height, b_rewardLock, b_many, b_holds, a_feeOf, a_rewardAmount) a_putRow (made + 1) pc) (fr : cn_fre (a_tokenCount, a_tokenOp, a_tokenValue, a_inputCount, a_inputCoin, a_inputA, a_inputB, a_outputCount, a_outputAmount, a_outputScript, a_parentOf, a_heightOf, a_rewardScript, a_blockSize, a_blockTransaction, a_feeOf, a_rewardAmount) blocks)
    (B : cn_blk D a_blockState b_delivered b_arrived a_chainWork b_work blocks ar tp 99) (RD : cn_rdy D b_delivered b_arrived blocks) (eh : pd_he D tp = nI n) (hn : n < 32) (hl : ∀ h, h ≤ n → a_laidBlock h = nI (pd_anc D tp (n - h))) (P : pd_pool D (pd_lay D n tp) made a_poolRow np) (hS : pd_out (b_from, b_spent, b_within)) :
    i_Rel k (f_stackSize, nI (made + 1), nI pc, nI blocks, nI tp, nI np, f_queueCount, a_tokenCount, a_tokenOp, a_tokenValue, a_scriptInUse, a_stack, a_inputCount, a_inputCoin, a_inputA, a_inputB, a_outputCount, a_outputAmount, a_outputScript, a_feeOf, a_putRow, a_parentOf, a_heightOf, a_chainWork, a_blockState, a_rewardAmount, a_rewardScript, a_blockSize, a_blockTransaction, a_laidBlock, (pd_lay D n tp).1, (pd_lay D n tp).2.1, (pd_lay D n tp).2.2, a_poolRow, a_marked, a_queue) (nI (made + 1), nI blocks, nI ar, nI tp, nI np, g_chainLength, a_tokenOp, a_tokenValue, a_tokenCount, b_ins, b_inCoin, b_inA, b_inB, b_outs, b_amount, b_lock, b_parent, b_work, b_rewardLock, b_height, b_many, b_holds, b_delivered, b_arrived, a_poolRow, b_chain, b_from, b_worth, b_within, b_spent, b_stack, b_again, b_chosen) := by
  have htp := B.2.2.2.2.2.1.1
  have el := pd_ag_lay w a n tp htp eh hn
  refine ⟨made + 1, blocks, tp, n, np, pc, ar, ⟨rfl, rfl, rfl, rfl, rfl⟩, ⟨rfl, rfl, rfl, rfl, rfl⟩, ⟨rfl, rfl, rfl, rfl⟩, ⟨by rw [el], by rw [el], by rw [el]⟩, ⟨tk, w2, aE, fq, pd_req_ag w a rq, hp0, us, df, pu, fr⟩, cn_blk_ag w a B, cn_rdy_ag a RD, ⟨((a.2.1 tp htp).1).trans eh, hn⟩, fun h hh => ?_, ?_, hS⟩
  · rw [hl h hh, (pd_ag_anc w a htp eh hn (n - h) (by omega)).1]
  · rw [el]; exact pd_pool_mono (by omega) (pd_pool_ag a P)
theorem dr_of {made blocks di od : Nat} {fe' : Nat → Int32} (hf : ∀ t, t < made → fe' t = a_feeOf t) (d1 : di ≤ 3) (d2 : od ≤ 3) (ei : a_inputCount made = nI di) (eo : a_outputCount made = nI od) (df : cn_drf (a_tokenCount, a_tokenOp, a_tokenValue, a_inputCount, a_inputCoin, a_inputA, a_inputB, a_outputCount, a_outputAmount, a_outputScript, a_parentOf, a_heightOf, a_rewardScript, a_blockSize, a_blockTransaction, a_feeOf, a_rewardAmount) (a_tokenCount, a_tokenOp, a_tokenValue, b_ins, b_inCoin, b_inA, b_inB, b_outs, b_amount, b_lock, b_parent, b_height, b_rewardLock, b_many, b_holds, a_feeOf, a_rewardAmount) made blocks) : dr_tx (a_tokenCount, a_tokenOp, a_tokenValue, a_inputCount, a_inputCoin, a_inputA, a_inputB, a_outputCount, a_outputAmount, a_outputScript, a_parentOf, a_heightOf, a_rewardScript, a_blockSize, a_blockTransaction, fe', a_rewardAmount) (a_tokenCount, a_tokenOp, a_tokenValue, b_ins, b_inCoin, b_inA, b_inB, b_outs, b_amount, b_lock, b_parent, b_height, b_rewardLock, b_many, b_holds, a_feeOf, a_rewardAmount) made blocks di od ∧ ∀ t, made < t → t ≤ 40 → pd_ic (a_tokenCount, a_tokenOp, a_tokenValue, a_inputCount, a_inputCoin, a_inputA, a_inputB, a_outputCount, a_outputAmount, a_outputScript, a_parentOf, a_heightOf, a_rewardScript, a_blockSize, a_blockTransaction, fe', a_rewardAmount) t = 0 ∧ pd_oc (a_tokenCount, a_tokenOp, a_tokenValue, a_inputCount, a_inputCoin, a_inputA, a_inputB, a_outputCount, a_outputAmount, a_outputScript, a_parentOf, a_heightOf, a_rewardScript, a_blockSize, a_blockTransaction, fe', a_rewardAmount) t = 0 := by
  obtain ⟨di', od', _, _, d3, d4, d5, d6, d7, d8, d9, d10⟩ := df
  have d3' : a_inputCount made = nI di' := d3
  have d5' : a_outputCount made = nI od' := d5
  obtain rfl : di = di' := by rw [ei, nI_eq (by omega) (by omega)] at d3'; exact d3'
  obtain rfl : od = od' := by rw [eo, nI_eq (by omega) (by omega)] at d5'; exact d5'
  refine ⟨⟨ei, eo, d4, d6, fun i hi => ?_, d8, d9⟩, d10⟩
  obtain ⟨q1, q2, q3, c, c1, c2, c3⟩ := d7 i hi
  exact ⟨q1, q2, q3, c, c1, c2, (pd_ag_coin (ag_fee hf) (Nat.le_refl _)).mpr c3⟩
theorem am_fee {fe' : Nat → Int32} : pd_amt (a_tokenCount, a_tokenOp, a_tokenValue, a_inputCount, a_inputCoin, a_inputA, a_inputB, a_outputCount, a_outputAmount, a_outputScript, a_parentOf, a_heightOf, a_rewardScript, a_blockSize, a_blockTransaction, fe', a_rewardAmount) = pd_amt (a_tokenCount, a_tokenOp, a_tokenValue, a_inputCount, a_inputCoin, a_inputA, a_inputB, a_outputCount, a_outputAmount, a_outputScript, a_parentOf, a_heightOf, a_rewardScript, a_blockSize, a_blockTransaction, a_feeOf, a_rewardAmount) := by
  funext c
  unfold pd_amt
  by_cases h : c < 120
  · rw [if_pos h]
  · rw [if_neg h]
end
end
section
section
variable {f_stackSize f_transactions f_putCount f_blocks f_tip f_poolCount f_queueCount : Int32} {a_tokenCount a_tokenOp a_tokenValue a_scriptInUse a_stack a_inputCount a_inputCoin a_inputA a_inputB a_outputCount a_outputAmount a_outputScript a_feeOf a_putRow a_parentOf a_heightOf a_chainWork a_blockState a_rewardAmount a_rewardScript a_blockSize a_blockTransaction a_laidBlock a_coinHeight a_coinSpent a_transactionHeight a_poolRow a_marked a_queue : Nat → Int32}
variable {g_made g_blocks g_arrivals g_tip g_pooled g_chainLength : Int32} {b_op b_arg b_length b_ins b_inCoin b_inA b_inB b_outs b_amount b_lock b_parent b_work b_rewardLock b_height b_many b_holds b_delivered b_arrived b_pool b_chain b_from b_worth b_within b_spent b_stack b_again b_chosen gfe grw : Nat → Int32}
theorem rl_make2 {k made blocks tp n np pc ar di od : Nat} {fe' use' c1 c2 c3 c4 c5 c6 c7 : Nat → Int32} (w : pd_wf (a_tokenCount, a_tokenOp, a_tokenValue, a_inputCount, a_inputCoin, a_inputA, a_inputB, a_outputCount, a_outputAmount, a_outputScript, a_parentOf, a_heightOf, a_rewardScript, a_blockSize, a_blockTransaction, a_feeOf, a_rewardAmount) made blocks) (ag : pd_ag (a_tokenCount, a_tokenOp, a_tokenValue, a_inputCount, a_inputCoin, a_inputA, a_inputB, a_outputCount, a_outputAmount, a_outputScript, a_parentOf, a_heightOf, a_rewardScript, a_blockSize, a_blockTransaction, a_feeOf, a_rewardAmount) (a_tokenCount, a_tokenOp, a_tokenValue, b_ins, b_inCoin, b_inA, b_inB, b_outs, b_amount, b_lock, b_parent, b_height, b_rewardLock, b_many, b_holds, a_feeOf, a_rewardAmount) made blocks) (tk : fx_tok a_tokenCount a_tokenOp a_tokenValue) (fq : pd_feq (a_tokenCount, a_tokenOp, a_tokenValue, a_inputCount, a_inputCoin, a_inputA, a_inputB, a_outputCount, a_outputAmount, a_outputScript, a_parentOf, a_heightOf, a_rewardScript, a_blockSize, a_blockTransaction, a_feeOf, a_rewardAmount) made) (rq : pd_req (a_tokenCount, a_tokenOp, a_tokenValue, a_inputCount, a_inputCoin, a_inputA, a_inputB, a_outputCount, a_outputAmount, a_outputScript, a_parentOf, a_heightOf, a_rewardScript, a_blockSize, a_blockTransaction, a_feeOf, a_rewardAmount) blocks) (hp0 : b_parent 0 = -1) (us : cn_used (a_tokenCount, a_tokenOp, a_tokenValue, a_inputCount, a_inputCoin, a_inputA, a_inputB, a_outputCount, a_outputAmount, a_outputScript, a_parentOf, a_heightOf, a_rewardScript, a_blockSize, a_blockTransaction, a_feeOf, a_rewardAmount) a_scriptInUse made blocks)
    (df : cn_drf (a_tokenCount, a_tokenOp, a_tokenValue, a_inputCount, a_inputCoin, a_inputA, a_inputB, a_outputCount, a_outputAmount, a_outputScript, a_parentOf, a_heightOf, a_rewardScript, a_blockSize, a_blockTransaction, a_feeOf, a_rewardAmount) (a_tokenCount, a_tokenOp, a_tokenValue, b_ins, b_inCoin, b_inA, b_inB, b_outs, b_amount, b_lock, b_parent, b_height, b_rewardLock, b_many, b_holds, a_feeOf, a_rewardAmount) made blocks) (pu : cn_put (a_tokenCount, a_tokenOp, a_tokenValue, a_inputCount, a_inputCoin, a_inputA, a_inputB, a_outputCount, a_outputAmount, a_outputScript, a_parentOf, a_heightOf, a_rewardScript, a_blockSize, a_blockTransaction, a_feeOf, a_rewardAmount) (a_tokenCount, a_tokenOp, a_tokenValue, b_ins, b_inCoin, b_inA, b_inB, b_outs, b_amount, b_lock, b_parent, b_height, b_rewardLock, b_many, b_holds, a_feeOf, a_rewardAmount) a_putRow made pc) (fr : cn_fre (a_tokenCount, a_tokenOp, a_tokenValue, a_inputCount, a_inputCoin, a_inputA, a_inputB, a_outputCount, a_outputAmount, a_outputScript, a_parentOf, a_heightOf, a_rewardScript, a_blockSize, a_blockTransaction, a_feeOf, a_rewardAmount) blocks)
    (hm : made < 40) (d1 : di ≤ 3) (d2 : od ≤ 3) (ei : a_inputCount made = nI di) (eo : a_outputCount made = nI od) (hi0 : 0 < di) (ho0 : 0 < od)
    (hf : ∀ t, t < made → fe' t = a_feeOf t) (hfm : fe' made = pd_sout (pd_sin (pd_amt (a_tokenCount, a_tokenOp, a_tokenValue, a_inputCount, a_inputCoin, a_inputA, a_inputB, a_outputCount, a_outputAmount, a_outputScript, a_parentOf, a_heightOf, a_rewardScript, a_blockSize, a_blockTransaction, a_feeOf, a_rewardAmount)) a_inputCoin (3 * made) di) a_outputAmount (3 * made) od)
    (hu : ∀ s, (use' s = 1 ∧ ∃ o, o < od ∧ (a_outputScript (3 * made + o)).toNatClampNeg = s) ∨ (use' s = a_scriptInUse s ∧ ¬ ∃ o, o < od ∧ (a_outputScript (3 * made + o)).toNatClampNeg = s))
    (h1 : ∀ t, t < made → c1 t = b_ins t) (h1m : c1 made = b_ins 40) (h1z : c1 40 = 0) (h5 : ∀ t, t < made → c5 t = b_outs t) (h5m : c5 made = b_outs 40) (h5z : c5 40 = 0)
    (h2 : ∀ j, j < 3 * made → c2 j = b_inCoin j) (h2m : ∀ i, i < 3 → c2 (3 * made + i) = b_inCoin (120 + i)) (h3 : ∀ j, j < 3 * made → c3 j = b_inA j) (h3m : ∀ i, i < 3 → c3 (3 * made + i) = b_inA (120 + i)) (h4 : ∀ j, j < 3 * made → c4 j = b_inB j) (h4m : ∀ i, i < 3 → c4 (3 * made + i) = b_inB (120 + i))
    (h6 : ∀ j, j < 3 * made → c6 j = b_amount j) (h6m : ∀ i, i < 3 → c6 (3 * made + i) = b_amount (120 + i)) (h7 : ∀ j, j < 3 * made → c7 j = b_lock j) (h7m : ∀ i, i < 3 → c7 (3 * made + i) = b_lock (120 + i))
    (B : cn_blk (a_tokenCount, a_tokenOp, a_tokenValue, a_inputCount, a_inputCoin, a_inputA, a_inputB, a_outputCount, a_outputAmount, a_outputScript, a_parentOf, a_heightOf, a_rewardScript, a_blockSize, a_blockTransaction, a_feeOf, a_rewardAmount) a_blockState b_delivered b_arrived a_chainWork b_work blocks ar tp 99) (RD : cn_rdy (a_tokenCount, a_tokenOp, a_tokenValue, a_inputCount, a_inputCoin, a_inputA, a_inputB, a_outputCount, a_outputAmount, a_outputScript, a_parentOf, a_heightOf, a_rewardScript, a_blockSize, a_blockTransaction, a_feeOf, a_rewardAmount) b_delivered b_arrived blocks) (eh : a_heightOf tp = nI n) (hn : n < 32) (hl : ∀ h, h ≤ n → a_laidBlock h = nI (pd_anc (a_tokenCount, a_tokenOp, a_tokenValue, a_inputCount, a_inputCoin, a_inputA, a_inputB, a_outputCount, a_outputAmount, a_outputScript, a_parentOf, a_heightOf, a_rewardScript, a_blockSize, a_blockTransaction, a_feeOf, a_rewardAmount) tp (n - h))) (P : pd_pool (a_tokenCount, a_tokenOp, a_tokenValue, a_inputCount, a_inputCoin, a_inputA, a_inputB, a_outputCount, a_outputAmount, a_outputScript, a_parentOf, a_heightOf, a_rewardScript, a_blockSize, a_blockTransaction, a_feeOf, a_rewardAmount) (pd_lay (a_tokenCount, a_tokenOp, a_tokenValue, a_inputCount, a_inputCoin, a_inputA, a_inputB, a_outputCount, a_outputAmount, a_outputScript, a_parentOf, a_heightOf, a_rewardScript, a_blockSize, a_blockTransaction, a_feeOf, a_rewardAmount) n tp) made a_poolRow np) (hS : pd_out (b_from, b_spent, b_within)) :
    i_Rel k (f_stackSize, nI (made + 1), nI pc, nI blocks, nI tp, nI np, f_queueCount, a_tokenCount, a_tokenOp, a_tokenValue, use', a_stack, a_inputCount, a_inputCoin, a_inputA, a_inputB, a_outputCount, a_outputAmount, a_outputScript, fe', a_putRow, a_parentOf, a_heightOf, a_chainWork, a_blockState, a_rewardAmount, a_rewardScript, a_blockSize, a_blockTransaction, a_laidBlock, (pd_lay (a_tokenCount, a_tokenOp, a_tokenValue, a_inputCount, a_inputCoin, a_inputA, a_inputB, a_outputCount, a_outputAmount, a_outputScript, a_parentOf, a_heightOf, a_rewardScript, a_blockSize, a_blockTransaction, a_feeOf, a_rewardAmount) n tp).1, (pd_lay (a_tokenCount, a_tokenOp, a_tokenValue, a_inputCount, a_inputCoin, a_inputA, a_inputB, a_outputCount, a_outputAmount, a_outputScript, a_parentOf, a_heightOf, a_rewardScript, a_blockSize, a_blockTransaction, a_feeOf, a_rewardAmount) n tp).2.1, (pd_lay (a_tokenCount, a_tokenOp, a_tokenValue, a_inputCount, a_inputCoin, a_inputA, a_inputB, a_outputCount, a_outputAmount, a_outputScript, a_parentOf, a_heightOf, a_rewardScript, a_blockSize, a_blockTransaction, a_feeOf, a_rewardAmount) n tp).2.2, a_poolRow, a_marked, a_queue)
      (nI (made + 1), nI blocks, nI ar, nI tp, nI np, g_chainLength, a_tokenOp, a_tokenValue, a_tokenCount, c1, c2, c3, c4, c5, c6, c7, b_parent, b_work, b_rewardLock, b_height, b_many, b_holds, b_delivered, b_arrived, a_poolRow, b_chain, b_from, b_worth, b_within, b_spent, b_stack, b_again, b_chosen) := by
  have a : pd_ag (a_tokenCount, a_tokenOp, a_tokenValue, a_inputCount, a_inputCoin, a_inputA, a_inputB, a_outputCount, a_outputAmount, a_outputScript, a_parentOf, a_heightOf, a_rewardScript, a_blockSize, a_blockTransaction, a_feeOf, a_rewardAmount) (a_tokenCount, a_tokenOp, a_tokenValue, a_inputCount, a_inputCoin, a_inputA, a_inputB, a_outputCount, a_outputAmount, a_outputScript, a_parentOf, a_heightOf, a_rewardScript, a_blockSize, a_blockTransaction, fe', a_rewardAmount) made blocks := ag_fee hf
  have aE : pd_ag (a_tokenCount, a_tokenOp, a_tokenValue, a_inputCount, a_inputCoin, a_inputA, a_inputB, a_outputCount, a_outputAmount, a_outputScript, a_parentOf, a_heightOf, a_rewardScript, a_blockSize, a_blockTransaction, fe', a_rewardAmount) (a_tokenCount, a_tokenOp, a_tokenValue, c1, c2, c3, c4, c5, c6, c7, b_parent, b_height, b_rewardLock, b_many, b_holds, fe', a_rewardAmount) made blocks := pd_ag_trans (pd_ag_symm a) (pd_ag_trans ag (ag_cpy (pd_wf_ag w ag) hf h1 h5 h2 h3 h4 h6 h7))
  obtain ⟨dt, d10⟩ := dr_of hf d1 d2 ei eo df
  have w2 := wf_ext (pd_wf_ag w a) (by omega) (rm_wT d1 d2 hi0 ho0 dt)
  have aE2 : pd_ag (a_tokenCount, a_tokenOp, a_tokenValue, a_inputCount, a_inputCoin, a_inputA, a_inputB, a_outputCount, a_outputAmount, a_outputScript, a_parentOf, a_heightOf, a_rewardScript, a_blockSize, a_blockTransaction, fe', a_rewardAmount) (a_tokenCount, a_tokenOp, a_tokenValue, c1, c2, c3, c4, c5, c6, c7, b_parent, b_height, b_rewardLock, b_many, b_holds, fe', a_rewardAmount) (made + 1) blocks := ag_ext aE (rm_aT d1 d2 dt rfl h1m h5m h2m h3m h4m h6m h7m) (fun s => ⟨rfl, fun _ _ => ⟨rfl, rfl⟩⟩)
  rw [← am_fee (fe' := fe')] at hfm
  exact rl_make w a w2 aE2 tk (rm_fq d1 d2 ei eo (pd_feq_ag w a fq) hfm) rq hp0 (rm_us d2 dt (cn_used_ag a us) hu) (rm_df (by omega) d10 h1z h5z) (rm_pu (D := (a_tokenCount, a_tokenOp, a_tokenValue, a_inputCount, a_inputCoin, a_inputA, a_inputB, a_outputCount, a_outputAmount, a_outputScript, a_parentOf, a_heightOf, a_rewardScript, a_blockSize, a_blockTransaction, a_feeOf, a_rewardAmount)) rfl rfl pu) fr B RD eh hn hl P hS
end
end
section
theorem i_vc_make {k : Nat} {u : SX} {v : SY} (I : i_Rel k u v) (hk : k + 4 ≤ 2048) : wpX_make (fun r u' => wpY_make (fun r' v' => r' = r ∧ i_Rel (k + 4) u' v') v) u := by
  obtain ⟨f_stackSize, f_transactions, f_putCount, f_blocks, f_tip, f_poolCount, f_queueCount, a_tokenCount, a_tokenOp, a_tokenValue, a_scriptInUse, a_stack, a_inputCount, a_inputCoin, a_inputA, a_inputB, a_outputCount, a_outputAmount, a_outputScript, a_feeOf, a_putRow, a_parentOf, a_heightOf, a_chainWork, a_blockState, a_rewardAmount, a_rewardScript, a_blockSize, a_blockTransaction, a_laidBlock, a_coinHeight, a_coinSpent, a_transactionHeight, a_poolRow, a_marked, a_queue⟩ := u
  obtain ⟨g_made, g_blocks, g_arrivals, g_tip, g_pooled, g_chainLength, b_op, b_arg, b_length, b_ins, b_inCoin, b_inA, b_inB, b_outs, b_amount, b_lock, b_parent, b_work, b_rewardLock, b_height, b_many, b_holds, b_delivered, b_arrived, b_pool, b_chain, b_from, b_worth, b_within, b_spent, b_stack, b_again, b_chosen⟩ := v
  have I' := I
  obtain ⟨made, blocks, tp, n, np, pc, ar, ⟨rfl, rfl, rfl, rfl, rfl⟩, ⟨rfl, rfl, rfl, rfl, rfl⟩, ⟨rfl, rfl, rfl, rfl⟩, ⟨rfl, rfl, rfl⟩, ST, B, RD, ⟨eh, hn⟩, hl, P, hS⟩ := I
  obtain ⟨tk, w, ag, fq, rq, hp0, us, df, pu, fr⟩ := ST
  have hm := w.2.2.1
  have df' := df
  obtain ⟨di, od, d1, d2, d3, d4, d5, d6, d7, d8, d9, d10⟩ := df'
  have d3' : a_inputCount made = nI di := d3
  have d4' : b_ins 40 = nI di := d4
  have d5' : a_outputCount made = nI od := d5
  have d6' : b_outs 40 = nI od := d6
  have emc : (nI made).toNatClampNeg = made := pk_cl made
  refine ⟨pk_in made 41 (by omega), ?_⟩
  rw [emc]
  refine pk_eq di 0 (fun e => br_t (by rw [d4', e]; rfl) ⟨rfl, I'⟩) (fun e => ⟨pk_in made 41 (by omega), ?_⟩) d3'
  have hine : ¬ b_ins 40 = 0 := fun q => e ((nI_eq (b := 0) (by omega) (by omega)).mp (d4'.symm.trans q))
  refine pk_eq od 0 (fun e2 => br_f hine (br_t (by rw [d6', e2]; rfl) ⟨rfl, I'⟩)) (fun e2 => ?_) d5'
  have hone : ¬ b_outs 40 = 0 := fun q => e2 ((nI_eq (b := 0) (by omega) (by omega)).mp (d6'.symm.trans q))
  refine pk_eq made 40 (fun e3 => br_f hine (br_f hone (br_t (by rw [e3]; rfl) ⟨rfl, I'⟩))) (fun e3 => ?_)
  refine xm_feeDraft hm d1 d2 d3' d5' (fun i hi => ?_) ⟨pk_in made 40 (by omega), nm_e ?_⟩
  · obtain ⟨_, _, _, c, c1, c2, _⟩ := d7 i hi
    exact ⟨c, c1, c2⟩
  refine xm_make46 (by omega) d2 d5' (fun o ho => ?_) ?_
  · obtain ⟨_, _, s, s1, s2⟩ := d9 o ho
    exact ⟨s, s1, s2⟩
  refine br_f hine (br_f hone (br_f (fun q => e3 ((nI_eq (b := 40) (by omega) (by omega)).mp q)) ⟨pk_in made 41 (by omega), nm_r (by rw [emc]) ⟨pk_in made 41 (by omega), nm_r (by rw [emc]) (ym_make68 (by omega) ⟨rfl, ?_⟩)⟩⟩))
  refine rl_make2 w ag tk fq rq hp0 us df pu fr (by omega) d1 d2 d3' d5' (by omega) (by omega) (fun t ht => pk_un (by omega)) pk_us (fun s => us_set_or _ _ _ _ _) (fun t ht => ?_) ?_ pk_us (fun t ht => ?_) ?_ pk_us
    (fun j hj => cp_no 3 (by omega)) (fun i hi => cp_in (by omega) 3 (by omega) hi) (fun j hj => cp_no 3 (by omega)) (fun i hi => cp_in (by omega) 3 (by omega) hi) (fun j hj => cp_no 3 (by omega)) (fun i hi => cp_in (by omega) 3 (by omega) hi) (fun j hj => cp_no 3 (by omega)) (fun i hi => cp_in (by omega) 3 (by omega) hi) (fun j hj => cp_no 3 (by omega)) (fun i hi => cp_in (by omega) 3 (by omega) hi) B RD eh hn hl P hS
  · rw [pk_un (by omega), pk_un (by omega)]
  · rw [pk_un (by omega), pk_us]
  · rw [pk_un (by omega), pk_un (by omega)]
  · rw [pk_un (by omega), pk_us]
end
section
/-! offer -/
theorem i_vc_offer {k : Nat} {u : SX} {v : SY} (I : i_Rel k u v) (hk : k + 4 ≤ 2048) (v1 : Int32) : wpX_offer (fun r u' => wpY_offer (fun r' v' => r' = r ∧ i_Rel (k + 4) u' v') v v1) u v1 := by
  obtain ⟨f_stackSize, f_transactions, f_putCount, f_blocks, f_tip, f_poolCount, f_queueCount, a_tokenCount, a_tokenOp, a_tokenValue, a_scriptInUse, a_stack, a_inputCount, a_inputCoin, a_inputA, a_inputB, a_outputCount, a_outputAmount, a_outputScript, a_feeOf, a_putRow, a_parentOf, a_heightOf, a_chainWork, a_blockState, a_rewardAmount, a_rewardScript, a_blockSize, a_blockTransaction, a_laidBlock, a_coinHeight, a_coinSpent, a_transactionHeight, a_poolRow, a_marked, a_queue⟩ := u
  obtain ⟨g_made, g_blocks, g_arrivals, g_tip, g_pooled, g_chainLength, b_op, b_arg, b_length, b_ins, b_inCoin, b_inA, b_inB, b_outs, b_amount, b_lock, b_parent, b_work, b_rewardLock, b_height, b_many, b_holds, b_delivered, b_arrived, b_pool, b_chain, b_from, b_worth, b_within, b_spent, b_stack, b_again, b_chosen⟩ := v
  obtain ⟨made, blocks, tp, n, np, pc, ar, ⟨rfl, rfl, rfl, rfl, rfl⟩, ⟨rfl, rfl, rfl, rfl, rfl⟩, ⟨rfl, rfl, rfl, rfl⟩, ⟨rfl, rfl, rfl⟩, ST, B, RD, ⟨eh, hn⟩, hl, P, hS⟩ := I
  have ST' := ST
  obtain ⟨tk, w, ag, fq, rq, hp0, us, df, pu, fr⟩ := ST'
  have htp := B.2.2.2.2.2.1.1
  have vtp := B.2.2.2.2.2.1.2.2.2
  have ehE : b_height tp = nI n := ((ag.2.1 tp htp).1).trans eh
  have hI := pd_inv_lay w n tp htp eh hn
  obtain ⟨r, pl', np', P', hX, hY⟩ := ad_take (f_putCount := nI pc) (f_blocks := nI blocks) (a_scriptInUse := a_scriptInUse) (a_putRow := a_putRow) (a_chainWork := a_chainWork) (a_blockState := a_blockState)
      (g_blocks := nI blocks) (g_arrivals := nI ar) (b_work := b_work) (b_delivered := b_delivered) (b_arrived := b_arrived) (b_chosen := b_chosen)
      w (pd_wf_ag w ag) ag tk tk (pd_feq_ag w ag fq) hI (pd_rng_lay w n tp htp eh hn) (pd_sp_lay w n tp htp eh hn ((pd_va_n eh hn).mp vtp)) htp eh ehE hn P v1 1
  unfold wpX_offer wpY_offer
  dsimp only
  refine hX _ f_stackSize f_queueCount a_stack a_marked a_laidBlock a_queue fun ss st mk => ?_
  refine ry_tip (gfe := a_feeOf) (grw := a_rewardAmount) w ag tk fq rq htp eh hn vtp _ hS fun wo st2 ch hw hc => ?_
  refine hY _ _ st2 wo ch b_again hw fun st3 => ⟨rfl, ?_⟩
  exact ⟨made, blocks, tp, n, np', pc, ar, ⟨rfl, rfl, rfl, rfl, rfl⟩, ⟨rfl, rfl, rfl, rfl, rfl⟩, ⟨rfl, rfl, rfl, rfl⟩, ⟨rfl, rfl, rfl⟩, ST, B, RD, ⟨eh, hn⟩, hl, P', pd_inv_out hI⟩
end
section
/-! a new block, pure -/
def nb_tx (D E : pd_D) : Prop := pd_tc E = pd_tc D ∧ pd_op E = pd_op D ∧ pd_tv E = pd_tv D ∧ pd_ic E = pd_ic D ∧ pd_co E = pd_co D ∧ pd_ia E = pd_ia D ∧ pd_ib E = pd_ib D ∧ pd_oc E = pd_oc D ∧ pd_oa E = pd_oa D ∧ pd_os E = pd_os D ∧ pd_fe E = pd_fe D
/-- E is D with the block x on p, its reward's script s, its transactions q 0 .. q (m - 1) -/
def nb (D E : pd_D) (x p s m : Nat) (q : pd_F) : Prop := nb_tx D E
    ∧ (∀ b, b < x → pd_pa E b = pd_pa D b ∧ pd_he E b = pd_he D b ∧ pd_rs E b = pd_rs D b ∧ pd_bs E b = pd_bs D b ∧ pd_rw E b = pd_rw D b) ∧ (∀ j, j < 4 * x → pd_bt E j = pd_bt D j)
    ∧ pd_pa E x = nI p ∧ pd_he E x = pd_he D p + 1 ∧ pd_rs E x = nI s ∧ pd_bs E x = nI m ∧ (∀ i, i < m → pd_bt E (4 * x + i) = q i)
theorem nb_ag {D E : pd_D} {made blocks p s m : Nat} {q : pd_F} (w : pd_wf D made blocks) (h : nb D E blocks p s m q) : pd_ag D E made blocks := by
  obtain ⟨⟨t1, t2, t3, t4, t5, t6, t7, t8, t9, t10, t11⟩, h1, h2, _⟩ := h
  refine ⟨fun t ht => ⟨by rw [t4], by rw [t8], by rw [t11], fun i hi => ⟨by rw [t5], by rw [t6], by rw [t7]⟩, fun o ho => ⟨by rw [t9], by rw [t10]⟩⟩, fun b hb => ?_, fun s' _ => ⟨by rw [t1], fun i hi => ⟨by rw [t2], by rw [t3]⟩⟩⟩
  obtain ⟨q1, q2, q3, q4, q5⟩ := h1 b hb
  refine ⟨q2, q3, q4, q5, fun _ => q1, fun i hi => h2 _ ?_⟩
  obtain ⟨_, _, ⟨n, hn, en, _⟩, _⟩ := w.2.2.2.2.2 b hb
  rw [pd_cl en (by omega)] at hi
  omega
theorem nb_coin {D E : pd_D} {t blocks x c : Nat} (h8 : pd_oc E = pd_oc D) (hx : blocks ≤ x) (q : pd_coin D t blocks c) : pd_coin E t x c := by
  rcases q with ⟨q1, q2, q3⟩ | ⟨q1, q2⟩
  · exact Or.inl ⟨q1, q2, by rw [h8]; exact q3⟩
  · exact Or.inr ⟨q1, by omega⟩
theorem nb_wf {D E : pd_D} {made blocks p s m : Nat} {q : pd_F} (w : pd_wf D made blocks) (h : nb D E blocks p s m q) (hp : p < blocks) (hs : s < 8) (hm : m ≤ 4) (hq : ∀ i, i < m → ∃ t, t < made ∧ q i = nI t) (h32 : blocks + 1 ≤ 32) : pd_wf E made (blocks + 1) := by
  have w1 := pd_wf_ag w (nb_ag w h)
  obtain ⟨⟨t1, t2, t3, t4, t5, t6, t7, t8, t9, t10, t11⟩, h1, h2, h3, h4, h5, h6, h7⟩ := h
  obtain ⟨u1, u2, u3, u4, uT, uB⟩ := w1
  refine ⟨by omega, h32, u3, u4, fun t ht => ?_, fun b hb => ?_⟩
  · obtain ⟨n, m', n1, n2, m1, m2, en, em, hc, hd, ho⟩ := uT t ht
    refine ⟨n, m', n1, n2, m1, m2, en, em, fun i hi => ?_, hd, ho⟩
    obtain ⟨c, c1, c2, c3⟩ := hc i hi
    exact ⟨c, c1, c2, nb_coin rfl (by omega) c3⟩
  · by_cases e : b = blocks
    · subst e
      obtain ⟨g, g1, g2, g3⟩ := pd_he_of w hp
      refine ⟨⟨g + 1, by omega, by rw [h4, g3, nI_1]⟩, ⟨s, hs, h5⟩, ⟨m, hm, h6, fun i hi => ?_⟩, fun _ => ⟨p, hp, h3, by rw [h4, (h1 p hp).2.1]⟩⟩
      obtain ⟨t, ht1, ht2⟩ := hq i hi
      exact ⟨t, ht1, (h7 i hi).trans ht2⟩
    · exact uB b (by omega)
theorem nb_agE {D E D' E' : pd_D} {made blocks p s m : Nat} {q q' : pd_F} (w : pd_wf D made blocks) (a : pd_ag D E made blocks) (h : nb D D' blocks p s m q) (h' : nb E E' blocks p s m q') (hp : p < blocks) (hm : m ≤ 4) (hqq : ∀ i, i < m → q' i = q i) (hrw : pd_rw E' blocks = pd_rw D' blocks) (htk : ∀ s, pd_agS D' E' s) : pd_ag D' E' made (blocks + 1) := by
  have a1 := pd_ag_trans (pd_ag_symm (nb_ag w h)) (pd_ag_trans a (nb_ag (pd_wf_ag w a) h'))
  obtain ⟨_, _, _, h3, h4, h5, h6, h7⟩ := h
  obtain ⟨_, _, _, g3, g4, g5, g6, g7⟩ := h'
  refine ⟨a1.1, fun b hb => ?_, fun s' _ => htk s'⟩
  by_cases e : b = blocks
  · subst e
    refine ⟨by rw [g4, h4, (a.2.1 p hp).1], by rw [g5, h5], by rw [g6, h6], hrw, fun _ => by rw [g3, h3], fun i hi => ?_⟩
    rw [pd_cl h6 (by omega)] at hi
    rw [g7 i hi, h7 i hi, hqq i hi]
  · exact a1.2.1 b (by omega)
theorem nb_rq {D E : pd_D} {made blocks p s m : Nat} {q : pd_F} (w : pd_wf D made blocks) (rq : pd_req D blocks) (h : nb D E blocks p s m q) (hm : m ≤ 4) (hr : pd_rw E blocks = pd_srw ((64 : Int32) >>> ((pd_he E blocks / 4) &&& 31)) (pd_fe E) (pd_bt E) (4 * blocks) m) : pd_req E (blocks + 1) := by
  have r1 := pd_req_ag w (nb_ag w h) rq
  intro b hb
  by_cases e : b = blocks
  · subst e
    rw [pd_cl h.2.2.2.2.2.2.1 (by omega)]
    exact hr
  · exact r1 b (by omega)
theorem nb_us {D E : pd_D} {made blocks p s m : Nat} {q use use' : pd_F} (w : pd_wf D made blocks) (us : cn_used D use made blocks) (h : nb D E blocks p s m q) (hs : s < 8) (h1 : use' s = 1) (h2 : ∀ s', s' ≠ s → use' s' = use s') : cn_used E use' made (blocks + 1) := by
  have u1 := cn_used_ag (nb_ag w h) us
  intro s' hs'
  have hiff : pd_used E made (blocks + 1) s' ↔ (pd_used E made blocks s' ∨ s' = s) := by
    constructor
    · rintro (⟨b, b1, b2⟩ | t)
      · by_cases e : b = blocks
        · subst e
          rw [h.2.2.2.2.2.1, nI_eq (by omega) (by omega)] at b2
          exact Or.inr b2.symm
        · exact Or.inl (Or.inl ⟨b, by omega, b2⟩)
      · exact Or.inl (Or.inr t)
    · rintro ((⟨b, b1, b2⟩ | t) | e)
      · exact Or.inl ⟨b, by omega, b2⟩
      · exact Or.inr t
      · subst e
        exact Or.inl ⟨blocks, by omega, h.2.2.2.2.2.1⟩
  rw [hiff]
  by_cases e : s' = s
  · subst e
    exact Or.inr ⟨h1, Or.inr rfl⟩
  · rw [h2 s' e]
    rcases u1 s' hs' with ⟨q1, q2⟩ | ⟨q1, q2⟩
    · exact Or.inl ⟨q1, fun z => by rcases z with z | z; exact q2 z; exact e z⟩
    · exact Or.inr ⟨q1, Or.inl q2⟩
theorem nb_df {D E D' E' : pd_D} {made blocks : Nat} (t : nb_tx D D') (t' : nb_tx E E') (df : cn_drf D E made blocks) : cn_drf D' E' made (blocks + 1) := by
  obtain ⟨t1, t2, t3, t4, t5, t6, t7, t8, t9, t10, t11⟩ := t
  obtain ⟨s1, s2, s3, s4, s5, s6, s7, s8, s9, s10, s11⟩ := t'
  unfold cn_drf at *
  rw [t4, t5, t6, t7, t8, t9, t10, s4, s5, s6, s7, s8, s9, s10]
  obtain ⟨di, od, d1, d2, d3, d4, d5, d6, d7, d8, d9, d10⟩ := df
  refine ⟨di, od, d1, d2, d3, d4, d5, d6, fun i hi => ?_, d8, d9, d10⟩
  obtain ⟨q1, q2, q3, c, c1, c2, c3⟩ := d7 i hi
  exact ⟨q1, q2, q3, c, c1, c2, nb_coin t8 (by omega) c3⟩
theorem nb_blk {D E : pd_D} {made blocks p s m ar tp : Nat} {q st dl av cw wk cw' wk' : pd_F} {wv : Int32} (w : pd_wf D made blocks) (h : nb D E blocks p s m q) (hp : p < blocks) (h32 : blocks + 1 ≤ 32) (B : cn_blk D st dl av cw wk blocks ar tp 99)
    (hcw : ∀ b, b < blocks → cw' b = cw b) (hwk : ∀ b, b < blocks → wk' b = wk b) (ecw : cw' blocks = cw p + wv) (ewk : wk' blocks = wv) (hwv : ∃ j, j ≤ 9 ∧ wv = nI j) : cn_blk E st dl av cw' wk' (blocks + 1) ar tp 99 := by
  have a := nb_ag w h
  obtain ⟨B1, B2, B3, B4, B5, ⟨T1, T2, T3, T4⟩, B7, B8⟩ := cn_blk_ag w a B
  have hb4 := B4 blocks (Nat.le_refl _) (by omega)
  have hneg : ¬ 0 ≤ av blocks := by rw [hb4.2.1]; exact pd_m1
  have h3 := h.2.2.2.1
  refine ⟨fun b hb _ => ?_, fun b c hb hc b0 e => ?_, B3, fun b hb1 hb2 => B4 b (by omega) hb2, ⟨?_, fun b hb => ?_, fun b hb0 hb => ?_⟩, ⟨by omega, T2, T3, T4⟩, fun b hb hbT b0 vb => ?_, B8⟩
  · by_cases e : b = blocks
    · subst e; exact Or.inl hb4
    · exact B1 b (by omega) (by omega)
  · have hbn : b ≠ blocks := fun z => by rw [z] at b0; exact hneg b0
    have hcn : c ≠ blocks := fun z => by rw [z] at e; rw [e] at b0; exact hneg b0
    exact B2 b c (by omega) (by omega) b0 e
  · rw [hwk 0 (by omega), hcw 0 (by omega)]; exact B5.1
  · by_cases e : b = blocks
    · subst e
      obtain ⟨c, c1, c2⟩ := B5.2.1 p hp
      obtain ⟨j, j1, j2⟩ := hwv
      exact ⟨c + j, by omega, by rw [ecw, c2, j2, nI_add]⟩
    · rw [hcw b (by omega)]; exact B5.2.1 b (by omega)
  · by_cases e : b = blocks
    · subst e
      rw [ecw, ewk, pd_cl h3 (by omega), hcw p hp]
    · obtain ⟨_, _, _, hpar⟩ := (pd_wf_ag w a).2.2.2.2.2 b (by omega)
      obtain ⟨pp, p1, p2, _⟩ := hpar hb0
      have hpc := pd_cl p2 (by omega)
      rw [hcw b (by omega), hwk b (by omega), hpc, hcw pp (by omega), ← hpc]
      exact B5.2.2 b hb0 (by omega)
  · have hbn : b ≠ blocks := fun z => by rw [z] at b0; exact hneg b0
    rw [hcw b (by omega), hcw tp T1]
    exact B7 b (by omega) hbT b0 vb
theorem nb_rdy {D E : pd_D} {made blocks p s m : Nat} {q dl av : pd_F} (w : pd_wf D made blocks) (h : nb D E blocks p s m q) (hd : dl blocks = 0) (RD : cn_rdy D dl av blocks) : cn_rdy E dl av (blocks + 1) := by
  have r := cn_rdy_ag (nb_ag w h) RD
  intro b b0 hb e1 e2
  by_cases e : b = blocks
  · rw [e, hd] at e1; exact absurd e1 (by decide)
  · exact r b b0 (by omega) e1 e2
end
section
/-! a new block on both sides; mine -/
def nb_I (bs0 bt0 rw0 fe q : pd_F) (x : Nat) (x0 : Int32) (i : Nat) (bs bt rw : pd_F) : Prop := bs x = nI i ∧ (∀ y, y ≠ x → bs y = bs0 y) ∧ (∀ j, j < 4 * x → bt j = bt0 j) ∧ (∀ j, j < i → bt (4 * x + j) = q j) ∧ (∀ y, y ≠ x → rw y = rw0 y) ∧ rw x = pd_srw x0 fe bt (4 * x) i
theorem nb_I_s {bs0 bt0 rw0 fe q bs bt rw : pd_F} {x i t : Nat} {x0 : Int32} (ht : t < 2 ^ 31) (eq : q i = nI t) (h : nb_I bs0 bt0 rw0 fe q x x0 i bs bt rw) : nb_I bs0 bt0 rw0 fe q x x0 (i + 1) (upd bs x (nI (i + 1))) (upd bt (4 * x + i) (nI t)) (upd rw x (rw x + fe t)) := by
  obtain ⟨h1, h2, h3, h4, h5, h6⟩ := h
  refine ⟨pk_us, fun y hy => by rw [pk_un hy]; exact h2 y hy, fun j hj => by rw [pk_un (by omega)]; exact h3 j hj, fun j hj => ?_, fun y hy => by rw [pk_un hy]; exact h5 y hy, ?_⟩
  · by_cases e : j = i
    · subst e; rw [pk_us, eq]
    · rw [pk_un (by omega)]; exact h4 j (by omega)
  · rw [pk_us, pd_srw, pk_us, nI_clamp ht, h6]
    rw [pd_srw_eq (bt' := upd bt (4 * x + i) (nI t)) (bt := bt) (fe' := fe) (fe := fe) i fun j hj => ⟨pk_un (by omega), rfl⟩]
section
variable {f_stackSize f_transactions f_putCount f_blocks f_tip f_poolCount f_queueCount : Int32} {a_tokenCount a_tokenOp a_tokenValue a_scriptInUse a_stack a_inputCount a_inputCoin a_inputA a_inputB a_outputCount a_outputAmount a_outputScript a_feeOf a_putRow a_parentOf a_heightOf a_chainWork a_blockState a_rewardAmount a_rewardScript a_blockSize a_blockTransaction a_laidBlock a_coinHeight a_coinSpent a_transactionHeight a_poolRow a_marked a_queue : Nat → Int32}
theorem xm_addBlock {x p s : Nat} {h wk : Int32} (hx : x < 32) (hs : s < 8) {post : Int32 → SX → Prop} (H : post (nI x) (f_stackSize, f_transactions, f_putCount, nI (x + 1), f_tip, f_poolCount, f_queueCount, a_tokenCount, a_tokenOp, a_tokenValue, upd a_scriptInUse s 1, a_stack, a_inputCount, a_inputCoin, a_inputA, a_inputB, a_outputCount, a_outputAmount, a_outputScript, a_feeOf, a_putRow, upd a_parentOf x (nI p), upd a_heightOf x h, upd a_chainWork x wk, a_blockState, upd a_rewardAmount x ((64 : Int32) >>> ((h / 4) &&& 31)), upd a_rewardScript x (nI s), a_blockSize, a_blockTransaction, a_laidBlock, a_coinHeight, a_coinSpent, a_transactionHeight, a_poolRow, a_marked, a_queue)) : wpX_addBlock post (f_stackSize, f_transactions, f_putCount, nI x, f_tip, f_poolCount, f_queueCount, a_tokenCount, a_tokenOp, a_tokenValue, a_scriptInUse, a_stack, a_inputCount, a_inputCoin, a_inputA, a_inputB, a_outputCount, a_outputAmount, a_outputScript, a_feeOf, a_putRow, a_parentOf, a_heightOf, a_chainWork, a_blockState, a_rewardAmount, a_rewardScript, a_blockSize, a_blockTransaction, a_laidBlock, a_coinHeight, a_coinSpent, a_transactionHeight, a_poolRow, a_marked, a_queue) (nI p) h wk (nI s) := by
  have ec : (nI x).toNatClampNeg = x := pk_cl x
  have i := pk_in (x := nI x) x 32 hx
  exact ⟨i, nm_r (by rw [ec]) ⟨i, nm_r (by rw [ec]) ⟨i, nm_r (by rw [ec]) ⟨by decide, i, nm_r (by rw [ec]) ⟨i, nm_r (by rw [ec]) ⟨pk_in s 8 hs, nm_r (by rw [pk_cl s, xb_1]) (nm_r (nI_1 x) H)⟩⟩⟩⟩⟩⟩
theorem xm_addTo {x t i : Nat} (hx : x < 32) (ht : t < 40) (hi : i < 4) (eb : a_blockSize x = nI i) {post : SX → Prop} (H : post (f_stackSize, f_transactions, f_putCount, f_blocks, f_tip, f_poolCount, f_queueCount, a_tokenCount, a_tokenOp, a_tokenValue, a_scriptInUse, a_stack, a_inputCount, a_inputCoin, a_inputA, a_inputB, a_outputCount, a_outputAmount, a_outputScript, a_feeOf, a_putRow, a_parentOf, a_heightOf, a_chainWork, a_blockState, upd a_rewardAmount x (a_rewardAmount x + a_feeOf t), a_rewardScript, upd a_blockSize x (nI (i + 1)), upd a_blockTransaction (4 * x + i) (nI t), a_laidBlock, a_coinHeight, a_coinSpent, a_transactionHeight, a_poolRow, a_marked, a_queue)) : wpX_addToBlock post (f_stackSize, f_transactions, f_putCount, f_blocks, f_tip, f_poolCount, f_queueCount, a_tokenCount, a_tokenOp, a_tokenValue, a_scriptInUse, a_stack, a_inputCount, a_inputCoin, a_inputA, a_inputB, a_outputCount, a_outputAmount, a_outputScript, a_feeOf, a_putRow, a_parentOf, a_heightOf, a_chainWork, a_blockState, a_rewardAmount, a_rewardScript, a_blockSize, a_blockTransaction, a_laidBlock, a_coinHeight, a_coinSpent, a_transactionHeight, a_poolRow, a_marked, a_queue) (nI x) (nI t) := by
  have ec : (nI x).toNatClampNeg = x := pk_cl x
  have et : (nI t).toNatClampNeg = t := pk_cl t
  have iv := pk_in (x := nI x) x 32 hx
  have e4 : nI x * 4 + a_blockSize (nI x).toNatClampNeg = nI (4 * x + i) := by rw [ec, eb]; exact xb_4 x i
  exact ⟨iv, pk_in (4 * x + i) 128 (by omega) e4, nm_r (by rw [pk_cl (4 * x + i) e4]) ⟨iv, iv, nm_r (by rw [ec, eb, nI_1]) ⟨iv, pk_in t 40 ht, iv, nm_r (by rw [ec, et]) H⟩⟩⟩
theorem xm_mine65 {x pc : Nat} {x0 : Int32} (hx : x < 32) (hpc : pc ≤ 4) (bs0 bt0 rw0 : Nat → Int32) (hq : ∀ i, i < pc → ∃ t, t < 40 ∧ a_putRow i = nI t) {post : Int32 → SX → Prop}
    (H : ∀ bs bt rw, nb_I bs0 bt0 rw0 a_feeOf a_putRow x x0 pc bs bt rw → post (nI x) (f_stackSize, f_transactions, 0, f_blocks, f_tip, f_poolCount, f_queueCount, a_tokenCount, a_tokenOp, a_tokenValue, a_scriptInUse, a_stack, a_inputCount, a_inputCoin, a_inputA, a_inputB, a_outputCount, a_outputAmount, a_outputScript, a_feeOf, a_putRow, a_parentOf, a_heightOf, a_chainWork, a_blockState, rw, a_rewardScript, bs, bt, a_laidBlock, a_coinHeight, a_coinSpent, a_transactionHeight, a_poolRow, a_marked, a_queue)) :
    ∀ (d i fuel : Nat) (bs bt rw : Nat → Int32), i + d = pc → d < fuel → nb_I bs0 bt0 rw0 a_feeOf a_putRow x x0 i bs bt rw → wX_mine_65 post (nI x) fuel (nI i) f_stackSize f_transactions (nI pc) f_blocks f_tip f_poolCount f_queueCount a_tokenCount a_tokenOp a_tokenValue a_scriptInUse a_stack a_inputCount a_inputCoin a_inputA a_inputB a_outputCount a_outputAmount a_outputScript a_feeOf a_putRow a_parentOf a_heightOf a_chainWork a_blockState rw a_rewardScript bs bt a_laidBlock a_coinHeight a_coinSpent a_transactionHeight a_poolRow a_marked a_queue := by
  intro d
  induction d with
  | zero =>
    intro i fuel bs bt rw hi hf hI
    obtain ⟨fuel, rfl⟩ : ∃ q, fuel = q + 1 := ⟨fuel - 1, by omega⟩
    obtain rfl : i = pc := by omega
    exact br_t (nI_le (Nat.le_refl _) (by omega)) (H bs bt rw hI)
  | succ d ih =>
    intro i fuel bs bt rw hi hf hI
    obtain ⟨fuel, rfl⟩ : ∃ q, fuel = q + 1 := ⟨fuel - 1, by omega⟩
    obtain ⟨t, ht1, ht2⟩ := hq i (by omega)
    refine pk_le pc i (fun z => by omega) (fun z => ⟨pk_in i 4 (by omega), ?_⟩)
    rw [pk_cl i, ht2]
    exact xm_addTo hx ht1 (by omega) hI.1 (nm_r (nI_1 i) (ih (i + 1) fuel _ _ _ (by omega) (by omega) (nb_I_s (by omega) ht2 hI)))
theorem nb_mk {blocks p s m : Nat} {q pa' he' rs' bs' bt' rw' : Nat → Int32} (h1 : ∀ b, b < blocks → pa' b = a_parentOf b) (h2 : ∀ b, b < blocks → he' b = a_heightOf b) (h3 : ∀ b, b < blocks → rs' b = a_rewardScript b) (h4 : ∀ b, b < blocks → bs' b = a_blockSize b) (h5 : ∀ b, b < blocks → rw' b = a_rewardAmount b) (h6 : ∀ j, j < 4 * blocks → bt' j = a_blockTransaction j)
    (e1 : pa' blocks = nI p) (e2 : he' blocks = a_heightOf p + 1) (e3 : rs' blocks = nI s) (e4 : bs' blocks = nI m) (e5 : ∀ i, i < m → bt' (4 * blocks + i) = q i) : nb (a_tokenCount, a_tokenOp, a_tokenValue, a_inputCount, a_inputCoin, a_inputA, a_inputB, a_outputCount, a_outputAmount, a_outputScript, a_parentOf, a_heightOf, a_rewardScript, a_blockSize, a_blockTransaction, a_feeOf, a_rewardAmount) (a_tokenCount, a_tokenOp, a_tokenValue, a_inputCount, a_inputCoin, a_inputA, a_inputB, a_outputCount, a_outputAmount, a_outputScript, pa', he', rs', bs', bt', a_feeOf, rw') blocks p s m q :=
  ⟨⟨rfl, rfl, rfl, rfl, rfl, rfl, rfl, rfl, rfl, rfl, rfl⟩, fun b hb => ⟨h1 b hb, h2 b hb, h3 b hb, h4 b hb, h5 b hb⟩, h6, e1, e2, e3, e4, e5⟩
end
section
variable {g_made g_blocks g_arrivals g_tip g_pooled g_chainLength : Int32} {b_op b_arg b_length b_ins b_inCoin b_inA b_inB b_outs b_amount b_lock b_parent b_work b_rewardLock b_height b_many b_holds b_delivered b_arrived b_pool b_chain b_from b_worth b_within b_spent b_stack b_again b_chosen gfe grw : Nat → Int32}
theorem ym_add {x p s : Nat} {wk : Int32} (hx : x < 33) (hp : p < 33) {post : Int32 → SY → Prop} (H : post (nI x) (g_made, nI (x + 1), g_arrivals, g_tip, g_pooled, g_chainLength, b_op, b_arg, b_length, b_ins, b_inCoin, b_inA, b_inB, b_outs, b_amount, b_lock, upd b_parent x (nI p), upd b_work x wk, upd b_rewardLock x (nI s), upd b_height x (b_height p + 1), upd b_many x 0, b_holds, b_delivered, b_arrived, b_pool, b_chain, b_from, b_worth, b_within, b_spent, b_stack, b_again, b_chosen)) : wpY_add post (g_made, nI x, g_arrivals, g_tip, g_pooled, g_chainLength, b_op, b_arg, b_length, b_ins, b_inCoin, b_inA, b_inB, b_outs, b_amount, b_lock, b_parent, b_work, b_rewardLock, b_height, b_many, b_holds, b_delivered, b_arrived, b_pool, b_chain, b_from, b_worth, b_within, b_spent, b_stack, b_again, b_chosen) (nI p) wk (nI s) := by
  have ec : (nI x).toNatClampNeg = x := pk_cl x
  have ep : (nI p).toNatClampNeg = p := pk_cl p
  have i := pk_in (x := nI x) x 33 hx
  exact ⟨i, nm_r (by rw [ec]) ⟨i, nm_r (by rw [ec]) ⟨i, nm_r (by rw [ec]) ⟨pk_in p 33 hp, i, nm_r (by rw [ec, ep]) ⟨i, nm_r (by rw [ec]) (nm_r (nI_1 x) H)⟩⟩⟩⟩⟩
def nb_J (ho0 q : pd_F) (x i : Nat) (ho : pd_F) : Prop := (∀ j, j < 4 * x → ho j = ho0 j) ∧ (∀ j, j < i → ho (4 * x + j) = q j) ∧ (∀ j, 128 ≤ j → ho j = ho0 j)
theorem ym_mine57 {x pc : Nat} (hx : x < 32) (hpc : pc ≤ 4) (em : b_many 32 = nI pc) (ho0 : Nat → Int32) {post : Int32 → SY → Prop}
    (H : ∀ ho, nb_J ho0 (fun i => ho0 (128 + i)) x pc ho → post (nI x) (g_made, g_blocks, g_arrivals, g_tip, g_pooled, g_chainLength, b_op, b_arg, b_length, b_ins, b_inCoin, b_inA, b_inB, b_outs, b_amount, b_lock, b_parent, b_work, b_rewardLock, b_height, upd (upd b_many x (nI pc)) 32 0, ho, b_delivered, b_arrived, b_pool, b_chain, b_from, b_worth, b_within, b_spent, b_stack, b_again, b_chosen)) :
    ∀ (d i fuel : Nat) (ho : Nat → Int32), i + d = pc → d < fuel → nb_J ho0 (fun i => ho0 (128 + i)) x i ho → wY_mine_57 post (nI x) g_made g_blocks g_arrivals g_tip g_pooled g_chainLength fuel (nI i) b_op b_arg b_length b_ins b_inCoin b_inA b_inB b_outs b_amount b_lock b_parent b_work b_rewardLock b_height b_many ho b_delivered b_arrived b_pool b_chain b_from b_worth b_within b_spent b_stack b_again b_chosen := by
  intro d
  induction d with
  | zero =>
    intro i fuel ho hi hf hJ
    obtain ⟨fuel, rfl⟩ : ∃ q, fuel = q + 1 := ⟨fuel - 1, by omega⟩
    obtain rfl : i = pc := by omega
    exact br_t (by rw [em]; exact nI_le (Nat.le_refl _) (by omega)) ⟨pk_in x 33 (by omega), nm_r (by rw [pk_cl x, em]) (nm_e (H ho hJ))⟩
  | succ d ih =>
    intro i fuel ho hi hf hJ
    obtain ⟨fuel, rfl⟩ : ∃ q, fuel = q + 1 := ⟨fuel - 1, by omega⟩
    have e128 : (128 : Int32) + nI i = nI (128 + i) := nI_add 128 i
    refine pk_le pc i (fun z => by omega) (fun z => ⟨pk_in (128 + i) 132 (by omega) e128, pk_in (4 * x + i) 132 (by omega) (yb_4 x i), nm_r (by rw [pk_cl (4 * x + i) (yb_4 x i), pk_cl (128 + i) e128]) (nm_r (nI_1 i) (ih (i + 1) fuel _ (by omega) (by omega) ?_))⟩) em
    obtain ⟨j1, j2, j3⟩ := hJ
    refine ⟨fun j hj => by rw [pk_un (by omega)]; exact j1 j hj, fun j hj => ?_, fun j hj => by rw [pk_un (by omega)]; exact j3 j hj⟩
    by_cases e : j = i
    · subst e; rw [pk_us]; exact j3 _ (by omega)
    · rw [pk_un (by omega)]; exact j2 j (by omega)
end
section
variable {f_stackSize f_transactions f_putCount f_blocks f_tip f_poolCount f_queueCount : Int32} {a_tokenCount a_tokenOp a_tokenValue a_scriptInUse a_stack a_inputCount a_inputCoin a_inputA a_inputB a_outputCount a_outputAmount a_outputScript a_feeOf a_putRow a_parentOf a_heightOf a_chainWork a_blockState a_rewardAmount a_rewardScript a_blockSize a_blockTransaction a_laidBlock a_coinHeight a_coinSpent a_transactionHeight a_poolRow a_marked a_queue : Nat → Int32}
variable {g_made g_blocks g_arrivals g_tip g_pooled g_chainLength : Int32} {b_op b_arg b_length b_ins b_inCoin b_inA b_inB b_outs b_amount b_lock b_parent b_work b_rewardLock b_height b_many b_holds b_delivered b_arrived b_pool b_chain b_from b_worth b_within b_spent b_stack b_again b_chosen gfe grw : Nat → Int32}
theorem rl_nb {D : pd_D} {k made blocks tp n np pc ar : Nat} (w : pd_wf D made blocks) (a : pd_ag D (a_tokenCount, a_tokenOp, a_tokenValue, a_inputCount, a_inputCoin, a_inputA, a_inputB, a_outputCount, a_outputAmount, a_outputScript, a_parentOf, a_heightOf, a_rewardScript, a_blockSize, a_blockTransaction, a_feeOf, a_rewardAmount) made blocks) (w2 : pd_wf (a_tokenCount, a_tokenOp, a_tokenValue, a_inputCount, a_inputCoin, a_inputA, a_inputB, a_outputCount, a_outputAmount, a_outputScript, a_parentOf, a_heightOf, a_rewardScript, a_blockSize, a_blockTransaction, a_feeOf, a_rewardAmount) made (blocks + 1)) (aE : pd_ag (a_tokenCount, a_tokenOp, a_tokenValue, a_inputCount, a_inputCoin, a_inputA, a_inputB, a_outputCount, a_outputAmount, a_outputScript, a_parentOf, a_heightOf, a_rewardScript, a_blockSize, a_blockTransaction, a_feeOf, a_rewardAmount) (a_tokenCount, a_tokenOp, a_tokenValue, b_ins, b_inCoin, b_inA, b_inB, b_outs, b_amount, b_lock, b_parent, b_height, b_rewardLock, b_many, b_holds, a_feeOf, a_rewardAmount) made (blocks + 1)) (tk : fx_tok a_tokenCount a_tokenOp a_tokenValue) (fq : pd_feq D made) (rq : pd_req (a_tokenCount, a_tokenOp, a_tokenValue, a_inputCount, a_inputCoin, a_inputA, a_inputB, a_outputCount, a_outputAmount, a_outputScript, a_parentOf, a_heightOf, a_rewardScript, a_blockSize, a_blockTransaction, a_feeOf, a_rewardAmount) (blocks + 1)) (hp0 : b_parent 0 = -1) (us : cn_used (a_tokenCount, a_tokenOp, a_tokenValue, a_inputCount, a_inputCoin, a_inputA, a_inputB, a_outputCount, a_outputAmount, a_outputScript, a_parentOf, a_heightOf, a_rewardScript, a_blockSize, a_blockTransaction, a_feeOf, a_rewardAmount) a_scriptInUse made (blocks + 1))
    (df : cn_drf (a_tokenCount, a_tokenOp, a_tokenValue, a_inputCount, a_inputCoin, a_inputA, a_inputB, a_outputCount, a_outputAmount, a_outputScript, a_parentOf, a_heightOf, a_rewardScript, a_blockSize, a_blockTransaction, a_feeOf, a_rewardAmount) (a_tokenCount, a_tokenOp, a_tokenValue, b_ins, b_inCoin, b_inA, b_inB, b_outs, b_amount, b_lock, b_parent, b_height, b_rewardLock, b_many, b_holds, a_feeOf, a_rewardAmount) made (blocks + 1)) (pu : cn_put (a_tokenCount, a_tokenOp, a_tokenValue, a_inputCount, a_inputCoin, a_inputA, a_inputB, a_outputCount, a_outputAmount, a_outputScript, a_parentOf, a_heightOf, a_rewardScript, a_blockSize, a_blockTransaction, a_feeOf, a_rewardAmount) (a_tokenCount, a_tokenOp, a_tokenValue, b_ins, b_inCoin, b_inA, b_inB, b_outs, b_amount, b_lock, b_parent, b_height, b_rewardLock, b_many, b_holds, a_feeOf, a_rewardAmount) a_putRow made pc) (fr : cn_fre (a_tokenCount, a_tokenOp, a_tokenValue, a_inputCount, a_inputCoin, a_inputA, a_inputB, a_outputCount, a_outputAmount, a_outputScript, a_parentOf, a_heightOf, a_rewardScript, a_blockSize, a_blockTransaction, a_feeOf, a_rewardAmount) (blocks + 1))
    (B : cn_blk (a_tokenCount, a_tokenOp, a_tokenValue, a_inputCount, a_inputCoin, a_inputA, a_inputB, a_outputCount, a_outputAmount, a_outputScript, a_parentOf, a_heightOf, a_rewardScript, a_blockSize, a_blockTransaction, a_feeOf, a_rewardAmount) a_blockState b_delivered b_arrived a_chainWork b_work (blocks + 1) ar tp 99) (RD : cn_rdy (a_tokenCount, a_tokenOp, a_tokenValue, a_inputCount, a_inputCoin, a_inputA, a_inputB, a_outputCount, a_outputAmount, a_outputScript, a_parentOf, a_heightOf, a_rewardScript, a_blockSize, a_blockTransaction, a_feeOf, a_rewardAmount) b_delivered b_arrived (blocks + 1)) (htp : tp < blocks) (eh : pd_he D tp = nI n) (hn : n < 32) (hl : ∀ h, h ≤ n → a_laidBlock h = nI (pd_anc D tp (n - h))) (P : pd_pool D (pd_lay D n tp) made a_poolRow np) (hS : pd_out (b_from, b_spent, b_within)) :
    i_Rel k (f_stackSize, nI made, nI pc, nI (blocks + 1), nI tp, nI np, f_queueCount, a_tokenCount, a_tokenOp, a_tokenValue, a_scriptInUse, a_stack, a_inputCount, a_inputCoin, a_inputA, a_inputB, a_outputCount, a_outputAmount, a_outputScript, a_feeOf, a_putRow, a_parentOf, a_heightOf, a_chainWork, a_blockState, a_rewardAmount, a_rewardScript, a_blockSize, a_blockTransaction, a_laidBlock, (pd_lay D n tp).1, (pd_lay D n tp).2.1, (pd_lay D n tp).2.2, a_poolRow, a_marked, a_queue) (nI made, nI (blocks + 1), nI ar, nI tp, nI np, g_chainLength, a_tokenOp, a_tokenValue, a_tokenCount, b_ins, b_inCoin, b_inA, b_inB, b_outs, b_amount, b_lock, b_parent, b_work, b_rewardLock, b_height, b_many, b_holds, b_delivered, b_arrived, a_poolRow, b_chain, b_from, b_worth, b_within, b_spent, b_stack, b_again, b_chosen) := by
  have el := pd_ag_lay w a n tp htp eh hn
  refine ⟨made, blocks + 1, tp, n, np, pc, ar, ⟨rfl, rfl, rfl, rfl, rfl⟩, ⟨rfl, rfl, rfl, rfl, rfl⟩, ⟨rfl, rfl, rfl, rfl⟩, ⟨by rw [el], by rw [el], by rw [el]⟩, ⟨tk, w2, aE, pd_feq_ag w a fq, rq, hp0, us, df, pu, fr⟩, B, RD, ⟨((a.2.1 tp htp).1).trans eh, hn⟩, fun h hh => ?_, ?_, hS⟩
  · rw [hl h hh, (pd_ag_anc w a htp eh hn (n - h) (by omega)).1]
  · rw [el]; exact pd_pool_ag a P
/-- all that is static, with one block more; the new arrays by their cells -/
theorem st_nb {made blocks p s m pc pc' : Nat} {pa' he' rs' bs' bt' rw' use' qa qh ql qm qo pr' : Nat → Int32} (ST : cn_stat (a_tokenCount, a_tokenOp, a_tokenValue, a_inputCount, a_inputCoin, a_inputA, a_inputB, a_outputCount, a_outputAmount, a_outputScript, a_parentOf, a_heightOf, a_rewardScript, a_blockSize, a_blockTransaction, a_feeOf, a_rewardAmount) (a_tokenCount, a_tokenOp, a_tokenValue, b_ins, b_inCoin, b_inA, b_inB, b_outs, b_amount, b_lock, b_parent, b_height, b_rewardLock, b_many, b_holds, a_feeOf, a_rewardAmount) a_scriptInUse a_putRow made blocks pc)
    (hp : p < blocks) (hs : s < 8) (hm : m ≤ 4) (h32 : blocks + 1 ≤ 32) (q : Nat → Int32) (hq : ∀ i, i < m → ∃ t, t < made ∧ q i = nI t) (eh : he' blocks = a_heightOf p + 1)
    (hpa : pa' = upd a_parentOf blocks (nI p)) (hhe : ∀ b, b < blocks → he' b = a_heightOf b) (hrs : rs' = upd a_rewardScript blocks (nI s)) (hI : nb_I a_blockSize a_blockTransaction a_rewardAmount a_feeOf q blocks ((64 : Int32) >>> ((he' blocks / 4) &&& 31)) m bs' bt' rw') (huse : use' = upd a_scriptInUse s 1)
    (gpa : qa = upd b_parent blocks (nI p)) (ghe : qh = upd b_height blocks (b_height p + 1)) (gl : ql = upd b_rewardLock blocks (nI s)) (gm : ∀ b, b < blocks → qm b = b_many b) (gmx : qm blocks = nI m) (gm32 : qm 32 = nI pc') (hJ : nb_J b_holds q blocks m qo)
    (hpu : pc' ≤ 4 ∧ ∀ i, i < pc' → pr' i = b_holds (128 + i) ∧ ∃ t, t < made ∧ pr' i = nI t) :
    nb (a_tokenCount, a_tokenOp, a_tokenValue, a_inputCount, a_inputCoin, a_inputA, a_inputB, a_outputCount, a_outputAmount, a_outputScript, a_parentOf, a_heightOf, a_rewardScript, a_blockSize, a_blockTransaction, a_feeOf, a_rewardAmount) (a_tokenCount, a_tokenOp, a_tokenValue, a_inputCount, a_inputCoin, a_inputA, a_inputB, a_outputCount, a_outputAmount, a_outputScript, pa', he', rs', bs', bt', a_feeOf, rw') blocks p s m q
      ∧ cn_stat (a_tokenCount, a_tokenOp, a_tokenValue, a_inputCount, a_inputCoin, a_inputA, a_inputB, a_outputCount, a_outputAmount, a_outputScript, pa', he', rs', bs', bt', a_feeOf, rw') (a_tokenCount, a_tokenOp, a_tokenValue, b_ins, b_inCoin, b_inA, b_inB, b_outs, b_amount, b_lock, qa, qh, ql, qm, qo, a_feeOf, rw') use' pr' made (blocks + 1) pc' := by
  obtain ⟨tk, w, ag, fq, rq, hp0, us, df, pu, fr⟩ := ST
  obtain ⟨i1, i2, i3, i4, i5, i6⟩ := hI
  obtain ⟨j1, j2, j3⟩ := hJ
  have hN : nb (a_tokenCount, a_tokenOp, a_tokenValue, a_inputCount, a_inputCoin, a_inputA, a_inputB, a_outputCount, a_outputAmount, a_outputScript, a_parentOf, a_heightOf, a_rewardScript, a_blockSize, a_blockTransaction, a_feeOf, a_rewardAmount) (a_tokenCount, a_tokenOp, a_tokenValue, a_inputCount, a_inputCoin, a_inputA, a_inputB, a_outputCount, a_outputAmount, a_outputScript, pa', he', rs', bs', bt', a_feeOf, rw') blocks p s m q :=
    nb_mk (fun b hb => by rw [hpa]; exact pk_un (by omega)) hhe (fun b hb => by rw [hrs]; exact pk_un (by omega)) (fun b hb => i2 b (by omega)) (fun b hb => i5 b (by omega)) i3 (by rw [hpa]; exact pk_us) eh (by rw [hrs]; exact pk_us) i1 i4
  have hN' : nb (a_tokenCount, a_tokenOp, a_tokenValue, b_ins, b_inCoin, b_inA, b_inB, b_outs, b_amount, b_lock, b_parent, b_height, b_rewardLock, b_many, b_holds, a_feeOf, a_rewardAmount) (a_tokenCount, a_tokenOp, a_tokenValue, b_ins, b_inCoin, b_inA, b_inB, b_outs, b_amount, b_lock, qa, qh, ql, qm, qo, a_feeOf, rw') blocks p s m q :=
    nb_mk (fun b hb => by rw [gpa]; exact pk_un (by omega)) (fun b hb => by rw [ghe]; exact pk_un (by omega)) (fun b hb => by rw [gl]; exact pk_un (by omega)) gm (fun b hb => i5 b (by omega)) j1 (by rw [gpa]; exact pk_us) (by rw [ghe]; exact pk_us) (by rw [gl]; exact pk_us) gmx j2
  refine ⟨hN, tk, nb_wf w hN hp hs hm hq h32, nb_agE w ag hN hN' hp hm (fun _ _ => rfl) rfl (fun s' => ⟨rfl, fun _ _ => ⟨rfl, rfl⟩⟩), pd_feq_ag w (nb_ag w hN) fq, nb_rq w rq hN hm i6, ?_, nb_us w us hN hs (by rw [huse]; exact pk_us) (fun s' hs' => by rw [huse]; exact pk_un hs'), nb_df hN.1 hN'.1 df, ⟨hpu.1, gm32, fun i hi => ?_⟩, fun b hb1 hb2 => ?_⟩
  · show qa 0 = -1
    rw [gpa, pk_un (by omega)]; exact hp0
  · obtain ⟨p1, p2⟩ := hpu.2 i hi
    exact ⟨p1.trans (j3 _ (by omega)).symm, p2⟩
  · exact (i2 b (by omega)).trans (fr b (by omega) hb2)
end
end
section
/-! mine -/
section
variable {f_stackSize f_transactions f_putCount f_blocks f_tip f_poolCount f_queueCount : Int32} {a_tokenCount a_tokenOp a_tokenValue a_scriptInUse a_stack a_inputCount a_inputCoin a_inputA a_inputB a_outputCount a_outputAmount a_outputScript a_feeOf a_putRow a_parentOf a_heightOf a_chainWork a_blockState a_rewardAmount a_rewardScript a_blockSize a_blockTransaction a_laidBlock a_coinHeight a_coinSpent a_transactionHeight a_poolRow a_marked a_queue : Nat → Int32}
theorem xq_work {x : Int32} {post : Int32 → Prop} (H0 : ¬ (∃ j, 1 ≤ j ∧ j ≤ 9 ∧ x = nI j) → (x < 1 ∨ (¬ x < 1 ∧ 9 < x)) → post 0) (H1 : ∀ j, 1 ≤ j → j ≤ 9 → x = nI j → ¬ x < 1 → ¬ 9 < x → post 1) : wpX_isWork post (f_stackSize, f_transactions, f_putCount, f_blocks, f_tip, f_poolCount, f_queueCount, a_tokenCount, a_tokenOp, a_tokenValue, a_scriptInUse, a_stack, a_inputCount, a_inputCoin, a_inputA, a_inputB, a_outputCount, a_outputAmount, a_outputScript, a_feeOf, a_putRow, a_parentOf, a_heightOf, a_chainWork, a_blockState, a_rewardAmount, a_rewardScript, a_blockSize, a_blockTransaction, a_laidBlock, a_coinHeight, a_coinSpent, a_transactionHeight, a_poolRow, a_marked, a_queue) x := by
  by_cases h1 : x < 1
  · refine br_t h1 (H0 (fun ⟨j, j1, j2, e⟩ => ?_) (Or.inl h1))
    rw [e] at h1
    exact nI_nlt (b := 1) j1 (by omega) h1
  · by_cases h9 : 9 < x
    · refine br_f h1 (br_t h9 (H0 (fun ⟨j, j1, j2, e⟩ => ?_) (Or.inr ⟨h1, h9⟩)))
      rw [e] at h9
      exact nI_nlt (a := 9) j2 (by omega) h9
    · have hx0 : ¬ x < 0 := fun q => h1 (Int32.lt_trans q (by decide))
      obtain ⟨j, hj, rfl⟩ := nI_of hx0
      have j1 : 1 ≤ j := by
        rcases Nat.lt_or_ge j 1 with q | q
        · exact (h1 (nI_lt (b := 1) q (by omega))).elim
        · exact q
      have j9 : j ≤ 9 := by
        rcases Nat.lt_or_ge 9 j with q | q
        · exact (h9 (nI_lt (a := 9) q hj)).elim
        · exact q
      exact br_f h1 (br_f h9 (H1 j j1 j9 rfl h1 h9))
end
theorem i_vc_mine {k : Nat} {u : SX} {v : SY} (I : i_Rel k u v) (hk : k + 4 ≤ 2048) (v1 : Int32) (v2 : Int32) (v3 : Int32) : wpX_mine (fun r u' => wpY_mine (fun r' v' => r' = r ∧ i_Rel (k + 4) u' v') v v1 v2 v3) u v1 v2 v3 := by
  obtain ⟨f_stackSize, f_transactions, f_putCount, f_blocks, f_tip, f_poolCount, f_queueCount, a_tokenCount, a_tokenOp, a_tokenValue, a_scriptInUse, a_stack, a_inputCount, a_inputCoin, a_inputA, a_inputB, a_outputCount, a_outputAmount, a_outputScript, a_feeOf, a_putRow, a_parentOf, a_heightOf, a_chainWork, a_blockState, a_rewardAmount, a_rewardScript, a_blockSize, a_blockTransaction, a_laidBlock, a_coinHeight, a_coinSpent, a_transactionHeight, a_poolRow, a_marked, a_queue⟩ := u
  obtain ⟨g_made, g_blocks, g_arrivals, g_tip, g_pooled, g_chainLength, b_op, b_arg, b_length, b_ins, b_inCoin, b_inA, b_inB, b_outs, b_amount, b_lock, b_parent, b_work, b_rewardLock, b_height, b_many, b_holds, b_delivered, b_arrived, b_pool, b_chain, b_from, b_worth, b_within, b_spent, b_stack, b_again, b_chosen⟩ := v
  have I' := I
  obtain ⟨made, blocks, tp, n, np, pc, ar, ⟨rfl, rfl, rfl, rfl, rfl⟩, ⟨rfl, rfl, rfl, rfl, rfl⟩, ⟨rfl, rfl, rfl, rfl⟩, ⟨rfl, rfl, rfl⟩, ST, B, RD, ⟨eh, hn⟩, hl, P, hS⟩ := I
  have ST0 := ST
  obtain ⟨tk, w, ag, fq, rq, hp0, us, df, pu, fr⟩ := ST0
  have hbk := w.2.1
  have hm := w.2.2.1
  have htp := B.2.2.2.2.2.1.1
  obtain ⟨hpc, epc, hpr⟩ := pu
  have epc' : b_many 32 = nI pc := epc
  rcases pk_ix v1 (n := blocks) (by omega) with h | h | ⟨p, hp, rfl⟩
  · exact br_t h (br_t rfl (br_t h (br_t rfl ⟨rfl, I'⟩)))
  · have h0 : ¬ v1 < 0 := Int32.not_lt.mpr (Int32.le_trans (nI_pos' (by omega)) h)
    exact br_f h0 (br_t h (br_t rfl (br_f h0 (br_t h (br_t rfl ⟨rfl, I'⟩)))))
  have p0 : ¬ nI p < 0 := nI_pos (by omega)
  have p1 : ¬ nI blocks ≤ nI p := nI_ge hp (by omega)
  have epp : (nI p).toNatClampNeg = p := pk_cl p
  refine br_f p0 (br_f p1 (br_f (by decide) (xq_work (fun _ hbad => br_t rfl ?_) (fun j j1 j9 ej h1 h9 => br_f (by decide) ?_))))
  · rcases hbad with q | ⟨q1, q2⟩
    · exact br_f p0 (br_f p1 (br_f (by decide) (br_t q ⟨rfl, I'⟩)))
    · exact br_f p0 (br_f p1 (br_f (by decide) (br_f q1 (br_t q2 ⟨rfl, I'⟩))))
  rcases pk_ix v3 (n := 8) (by omega) with h | h | ⟨s, hs, rfl⟩
  · exact br_t h (br_t rfl (br_f p0 (br_f p1 (br_f (by decide) (br_f h1 (br_f h9 (br_t h (br_t rfl ⟨rfl, I'⟩))))))))
  · have h0 : ¬ v3 < 0 := Int32.not_lt.mpr (Int32.le_trans (by decide) h)
    exact br_f h0 (br_t h (br_t rfl (br_f p0 (br_f p1 (br_f (by decide) (br_f h1 (br_f h9 (br_f h0 (br_t h (br_t rfl ⟨rfl, I'⟩))))))))))
  have s0 : ¬ nI s < 0 := nI_pos (by omega)
  have s8 : ¬ (8 : Int32) ≤ nI s := nI_ge (b := 8) hs (by omega)
  have goY : ∀ post : Int32 → SY → Prop, ((nI blocks = 32 → post (-5) (nI made, nI blocks, nI ar, nI tp, nI np, g_chainLength, a_tokenOp, a_tokenValue, a_tokenCount, b_ins, b_inCoin, b_inA, b_inB, b_outs, b_amount, b_lock, b_parent, b_work, b_rewardLock, b_height, b_many, b_holds, b_delivered, b_arrived, a_poolRow, b_chain, b_from, b_worth, b_within, b_spent, b_stack, b_again, b_chosen)) ∧ (¬ nI blocks = 32 → wpY_add (fun r_8 u => match u with | (g_madeq, g_blocksq, g_arrivalsq, g_tipq, g_pooledq, g_chainLengthq, b_opq, b_argq, b_lengthq, b_insq, b_inCoinq, b_inAq, b_inBq, b_outsq, b_amountq, b_lockq, b_parentq, b_workq, b_rewardLockq, b_heightq, b_manyq, b_holdsq, b_deliveredq, b_arrivedq, b_poolq, b_chainq, b_fromq, b_worthq, b_withinq, b_spentq, b_stackq, b_againq, b_chosenq) => (∃ n57 : Nat, wY_mine_57 post r_8 g_madeq g_blocksq g_arrivalsq g_tipq g_pooledq g_chainLengthq n57 0 b_opq b_argq b_lengthq b_insq b_inCoinq b_inAq b_inBq b_outsq b_amountq b_lockq b_parentq b_workq b_rewardLockq b_heightq b_manyq b_holdsq b_deliveredq b_arrivedq b_poolq b_chainq b_fromq b_worthq b_withinq b_spentq b_stackq b_againq b_chosenq)) (nI made, nI blocks, nI ar, nI tp, nI np, g_chainLength, a_tokenOp, a_tokenValue, a_tokenCount, b_ins, b_inCoin, b_inA, b_inB, b_outs, b_amount, b_lock, b_parent, b_work, b_rewardLock, b_height, b_many, b_holds, b_delivered, b_arrived, a_poolRow, b_chain, b_from, b_worth, b_within, b_spent, b_stack, b_again, b_chosen) (nI p) v2 (nI s))) → wpY_mine post (nI made, nI blocks, nI ar, nI tp, nI np, g_chainLength, a_tokenOp, a_tokenValue, a_tokenCount, b_ins, b_inCoin, b_inA, b_inB, b_outs, b_amount, b_lock, b_parent, b_work, b_rewardLock, b_height, b_many, b_holds, b_delivered, b_arrived, a_poolRow, b_chain, b_from, b_worth, b_within, b_spent, b_stack, b_again, b_chosen) (nI p) v2 (nI s) := fun post H => br_f p0 (br_f p1 (br_f (by decide) (br_f h1 (br_f h9 (br_f s0 (br_f s8 (br_f (by decide) H)))))))
  refine br_f s0 (br_f s8 (br_f (by decide) (pk_eq blocks 32 (fun e => goY _ (br_t (by rw [e]; rfl) ⟨rfl, I'⟩)) (fun e => ⟨pk_in p 32 (by omega), pk_in p 32 (by omega), ?_⟩))))
  rw [epp]
  have hne : ¬ nI blocks = 32 := fun q => e ((nI_eq (b := 32) (by omega) (by omega)).mp q)
  have hb32 : blocks < 32 := by omega
  refine xm_addBlock hb32 hs ⟨pc + 1, ?_⟩
  refine xm_mine65 (x0 := (64 : Int32) >>> (((a_heightOf p + 1) / 4) &&& 31)) hb32 hpc a_blockSize a_blockTransaction a_rewardAmount (fun i hi => ?_) (fun bs bt rw hI => ?_) pc 0 (pc + 1) _ _ _ (by omega) (by omega) ⟨fr blocks (Nat.le_refl _) hb32, fun y _ => rfl, fun _ _ => rfl, fun j hj => by omega, fun y hy => pk_un hy, pk_us⟩
  · obtain ⟨_, t, t1, t2⟩ := hpr i hi
    exact ⟨t, by omega, t2⟩
  refine goY _ (br_f hne (ym_add (by omega) (by omega) ⟨pc + 1, ?_⟩))
  refine ym_mine57 hb32 hpc (by rw [pk_un (by omega)]; exact epc') b_holds (fun ho hJ => ⟨rfl, ?_⟩) pc 0 (pc + 1) b_holds (by omega) (by omega) ⟨fun _ _ => rfl, fun j hj => by omega, fun _ _ => rfl⟩
  have hJ' : nb_J b_holds a_putRow blocks pc ho := ⟨hJ.1, fun j hj => (hJ.2.1 j hj).trans ((hpr j hj).1).symm, hJ.2.2⟩
  obtain ⟨hN, ST'⟩ := st_nb (pa' := upd a_parentOf blocks (nI p)) (he' := upd a_heightOf blocks (a_heightOf p + 1)) (rs' := upd a_rewardScript blocks (nI s)) (bs' := bs) (bt' := bt) (rw' := rw) (use' := upd a_scriptInUse s 1) (qa := upd b_parent blocks (nI p)) (qh := upd b_height blocks (b_height p + 1)) (ql := upd b_rewardLock blocks (nI s)) (qm := upd (upd (upd b_many blocks 0) blocks (nI pc)) 32 0) (qo := ho) (pr' := a_putRow) (pc' := 0)
    ST hp hs hpc (by omega) a_putRow (fun i hi => (hpr i hi).2) pk_us rfl (fun b hb => pk_un (by omega)) rfl (by rw [pk_us]; exact hI) rfl rfl rfl rfl (fun b hb => by rw [pk_un (by omega), pk_un (by omega), pk_un (by omega)]) (by rw [pk_un (by omega), pk_us]) pk_us hJ' ⟨by omega, fun i hi => by omega⟩
  obtain ⟨tk', w', aE', fq', rq', hp0', us', df', pu', fr'⟩ := ST'
  exact rl_nb w (nb_ag w hN) w' aE' tk' fq rq' hp0' us' df' pu' fr' (nb_blk w hN hp (by omega) B (fun b hb => pk_un (by omega)) (fun b hb => pk_un (by omega)) pk_us pk_us ⟨j, j9, ej⟩) (nb_rdy w hN (B.2.2.2.1 blocks (Nat.le_refl _) hb32).1 RD) htp eh hn hl P hS
end
section
/-! deliver -/
theorem cn_blk_x {D : pd_D} {st dl av cw wk : pd_F} {blocks ar tp b : Nat} (hb32 : blocks ≤ 32) (B : cn_blk D st dl av cw wk blocks ar tp 99) (e : av b = -1) : cn_blk D st dl av cw wk blocks ar tp b := by
  obtain ⟨B1, B2, B3, B4, B5, ⟨T1, T2, T3, T4⟩, B7, B8⟩ := B
  refine ⟨fun c hc _ => B1 c hc (by omega), B2, B3, B4, B5, ⟨T1, fun z => ?_, T3, T4⟩, B7, B8⟩
  rw [z, e] at T3; exact pd_m1 T3
theorem cn_dlv {D : pd_D} {st dl av cw wk : pd_F} {blocks ar tp b : Nat} (hb32 : blocks ≤ 32) (B : cn_blk D st dl av cw wk blocks ar tp 99) (hb : b < blocks) (e : dl b = 0) : cn_blk D (upd st b 1) (upd dl b 1) av cw wk blocks ar tp 99 := by
  obtain ⟨B1, B2, B3, B4, B5, B6, B7, B8⟩ := B
  refine ⟨fun c hc hx => ?_, B2, B3, fun c h1 h2 => ?_, B5, B6, B7, B8⟩
  · by_cases q : c = b
    · subst q
      rcases B1 c hc hx with h | ⟨h, _⟩ | ⟨h, _⟩
      · exact Or.inr (Or.inl ⟨pk_us, h.2.1, pk_us⟩)
      · rw [e] at h; exact absurd h (by decide)
      · rw [e] at h; exact absurd h (by decide)
    · unfold cn_one
      rw [pk_un q, pk_un q]
      exact B1 c hc hx
  · rw [pk_un (by omega), pk_un (by omega)]
    exact B4 c h1 h2
/-- no block below b waits for nothing -/
def cn_rdb (D : pd_D) (dl av : pd_F) (b : Nat) : Prop := ∀ c, 0 < c → c < b → dl c = 1 → av c = -1 → av (pd_pa D c).toNatClampNeg < 0
theorem cn_rdb_arr {D : pd_D} {made blocks b ar : Nat} {dl av : pd_F} (w : pd_wf D made blocks) (har : ar < 2 ^ 31) (hb : b < blocks) (h : cn_rdb D dl av b) : cn_rdb D dl (upd av b (nI ar)) (b + 1) := by
  have hbk := w.2.1
  intro c c0 hc e1 e2
  by_cases q : c = b
  · subst q
    rw [pk_us] at e2
    have := nI_pos' har
    rw [e2] at this
    exact (pd_m1 this).elim
  · rw [pk_un q] at e2
    obtain ⟨_, _, _, hp⟩ := w.2.2.2.2.2 c (by omega)
    obtain ⟨p, p1, p2, _⟩ := hp c0
    have hpc := pd_cl p2 (by omega)
    have := h c c0 (by omega) e1 e2
    rw [hpc] at this ⊢
    rw [pk_un (by omega)]
    exact this
section
variable {g_made g_blocks g_arrivals g_tip g_pooled g_chainLength : Int32} {b_op b_arg b_length b_ins b_inCoin b_inA b_inB b_outs b_amount b_lock b_parent b_work b_rewardLock b_height b_many b_holds b_delivered b_arrived b_pool b_chain b_from b_worth b_within b_spent b_stack b_again b_chosen gfe grw : Nat → Int32}
theorem ym_scanN {made blocks : Nat} {x1 : Int32} (w : pd_wf (b_length, b_op, b_arg, b_ins, b_inCoin, b_inA, b_inB, b_outs, b_amount, b_lock, b_parent, b_height, b_rewardLock, b_many, b_holds, gfe, grw) made blocks) (eb : g_blocks = nI blocks) (h01 : ∀ c, c < blocks → (b_delivered c = 0 ∨ b_delivered c = 1) ∧ (b_arrived c = -1 ∨ 0 ≤ b_arrived c)) {post : Int32 → SY → Prop} {J : Int32 → Int32 → Int32 → Int32 → Int32 → Int32 → Int32 → Int32 → (Nat → Int32) → (Nat → Int32) → (Nat → Int32) → (Nat → Int32) → (Nat → Int32) → (Nat → Int32) → (Nat → Int32) → (Nat → Int32) → (Nat → Int32) → (Nat → Int32) → (Nat → Int32) → (Nat → Int32) → (Nat → Int32) → (Nat → Int32) → (Nat → Int32) → (Nat → Int32) → (Nat → Int32) → (Nat → Int32) → (Nat → Int32) → (Nat → Int32) → (Nat → Int32) → (Nat → Int32) → (Nat → Int32) → (Nat → Int32) → (Nat → Int32) → (Nat → Int32) → (Nat → Int32) → Prop} (HJ : J x1 0 g_made g_blocks g_arrivals g_tip g_pooled g_chainLength b_op b_arg b_length b_ins b_inCoin b_inA b_inB b_outs b_amount b_lock b_parent b_work b_rewardLock b_height b_many b_holds b_delivered b_arrived b_pool b_chain b_from b_worth b_within b_spent b_stack b_again b_chosen) :
    ∀ (d i fuel : Nat), i + d = blocks → 1 ≤ i → d < fuel → (∀ c, i ≤ c → c < blocks → b_delivered c = 1 → b_arrived c = -1 → b_arrived (b_parent c).toNatClampNeg < 0) → wY_arrive_12 post J fuel x1 0 (nI i) g_made g_blocks g_arrivals g_tip g_pooled g_chainLength b_op b_arg b_length b_ins b_inCoin b_inA b_inB b_outs b_amount b_lock b_parent b_work b_rewardLock b_height b_many b_holds b_delivered b_arrived b_pool b_chain b_from b_worth b_within b_spent b_stack b_again b_chosen := by
  have hbk := w.2.1
  subst eb
  intro d
  induction d with
  | zero =>
    intro i fuel hi h1 hf hno
    obtain ⟨fuel, rfl⟩ : ∃ q, fuel = q + 1 := ⟨fuel - 1, by omega⟩
    exact br_t (nI_le (by omega) (by omega)) HJ
  | succ d ih =>
    intro i fuel hi h1 hf hno
    obtain ⟨fuel, rfl⟩ : ∃ q, fuel = q + 1 := ⟨fuel - 1, by omega⟩
    have nx := ih (i + 1) fuel (by omega) (by omega) (by omega) (fun c hc => hno c (by omega))
    obtain ⟨_, _, _, hp⟩ := w.2.2.2.2.2 i (by omega)
    obtain ⟨p, p1, p2, _⟩ := hp (by omega)
    have p2' : b_parent i = nI p := p2
    have eic : (nI i).toNatClampNeg = i := pk_cl i
    have epc : b_parent (nI i).toNatClampNeg = nI p := by rw [eic]; exact p2'
    refine pk_le blocks i (fun z => by omega) (fun z => br_t rfl ⟨pk_in i 32 (by omega), ?_⟩)
    rw [eic]
    refine br_c (fun z1 => nm_r (nI_1 i) nx) (fun z1 => ⟨pk_in i 32 (by omega), br_c (fun z2 => nm_r (nI_1 i) nx) (fun z2 => ⟨pk_in i 33 (by omega), pk_in p 32 (by omega) p2', ?_⟩)⟩)
    have hno' := hno i (Nat.le_refl _) (by omega) ((h01 i (by omega)).1.resolve_left z1) ((h01 i (by omega)).2.resolve_right z2)
    exact br_f (Int32.not_le.mpr hno') (nm_r (nI_1 i) nx)
theorem ym_scanF {made blocks b ar : Nat} {x1 : Int32} (w : pd_wf (b_length, b_op, b_arg, b_ins, b_inCoin, b_inA, b_inB, b_outs, b_amount, b_lock, b_parent, b_height, b_rewardLock, b_many, b_holds, gfe, grw) made blocks) (eb : g_blocks = nI blocks) (ea : g_arrivals = nI ar) (hb : b < blocks) (hb0 : 0 < b) (h01 : ∀ c, c < blocks → (b_delivered c = 0 ∨ b_delivered c = 1) ∧ (b_arrived c = -1 ∨ 0 ≤ b_arrived c)) (r1 : b_delivered b = 1) (r2 : b_arrived b = -1) (r3 : 0 ≤ b_arrived (b_parent b).toNatClampNeg) {post : Int32 → SY → Prop} {J : Int32 → Int32 → Int32 → Int32 → Int32 → Int32 → Int32 → Int32 → (Nat → Int32) → (Nat → Int32) → (Nat → Int32) → (Nat → Int32) → (Nat → Int32) → (Nat → Int32) → (Nat → Int32) → (Nat → Int32) → (Nat → Int32) → (Nat → Int32) → (Nat → Int32) → (Nat → Int32) → (Nat → Int32) → (Nat → Int32) → (Nat → Int32) → (Nat → Int32) → (Nat → Int32) → (Nat → Int32) → (Nat → Int32) → (Nat → Int32) → (Nat → Int32) → (Nat → Int32) → (Nat → Int32) → (Nat → Int32) → (Nat → Int32) → (Nat → Int32) → (Nat → Int32) → Prop} {Q : SY → Prop}
    (HF : ∀ post' : SY → Prop, (∀ u, Q u → post' u) → wpY_findTip post' (g_made, g_blocks, nI (ar + 1), g_tip, g_pooled, g_chainLength, b_op, b_arg, b_length, b_ins, b_inCoin, b_inA, b_inB, b_outs, b_amount, b_lock, b_parent, b_work, b_rewardLock, b_height, b_many, b_holds, b_delivered, upd b_arrived b (nI ar), b_pool, b_chain, b_from, b_worth, b_within, b_spent, b_stack, b_again, b_chosen)) (HJ : ∀ u, Q u → (match u with | (g_madeq, g_blocksq, g_arrivalsq, g_tipq, g_pooledq, g_chainLengthq, b_opq, b_argq, b_lengthq, b_insq, b_inCoinq, b_inAq, b_inBq, b_outsq, b_amountq, b_lockq, b_parentq, b_workq, b_rewardLockq, b_heightq, b_manyq, b_holdsq, b_deliveredq, b_arrivedq, b_poolq, b_chainq, b_fromq, b_worthq, b_withinq, b_spentq, b_stackq, b_againq, b_chosenq) => J (x1 + 1) 1 g_madeq g_blocksq g_arrivalsq g_tipq g_pooledq g_chainLengthq b_opq b_argq b_lengthq b_insq b_inCoinq b_inAq b_inBq b_outsq b_amountq b_lockq b_parentq b_workq b_rewardLockq b_heightq b_manyq b_holdsq b_deliveredq b_arrivedq b_poolq b_chainq b_fromq b_worthq b_withinq b_spentq b_stackq b_againq b_chosenq)) :
    ∀ (d i fuel : Nat), i + d = b → 1 ≤ i → d + 1 < fuel → (∀ c, i ≤ c → c < b → b_delivered c = 1 → b_arrived c = -1 → b_arrived (b_parent c).toNatClampNeg < 0) → wY_arrive_12 post J fuel x1 0 (nI i) g_made g_blocks g_arrivals g_tip g_pooled g_chainLength b_op b_arg b_length b_ins b_inCoin b_inA b_inB b_outs b_amount b_lock b_parent b_work b_rewardLock b_height b_many b_holds b_delivered b_arrived b_pool b_chain b_from b_worth b_within b_spent b_stack b_again b_chosen := by
  have hbk := w.2.1
  subst eb ea
  intro d
  induction d with
  | zero =>
    intro i fuel hi h1 hf hno
    obtain ⟨fuel, rfl⟩ : ∃ q, fuel = q + 2 := ⟨fuel - 2, by omega⟩
    obtain rfl : i = b := by omega
    have eic : (nI i).toNatClampNeg = i := pk_cl i
    obtain ⟨_, _, _, hp⟩ := w.2.2.2.2.2 i (by omega)
    obtain ⟨p, p1, p2, _⟩ := hp (by omega)
    have p2' : b_parent i = nI p := p2
    refine pk_le blocks i (fun z => by omega) (fun z => br_t rfl ⟨pk_in i 32 (by omega), ?_⟩)
    rw [eic]
    refine br_f (by rw [r1]; decide) ⟨pk_in i 32 (by omega), br_f (by rw [r2]; exact pd_m1) ⟨pk_in i 33 (by omega), pk_in p 32 (by omega) p2', br_t r3 ⟨pk_in i 32 (by omega), nm_e (nm_r (nI_1 ar) (HF _ fun u hu => ?_))⟩⟩⟩
    obtain ⟨g_madeq, g_blocksq, g_arrivalsq, g_tipq, g_pooledq, g_chainLengthq, b_opq, b_argq, b_lengthq, b_insq, b_inCoinq, b_inAq, b_inBq, b_outsq, b_amountq, b_lockq, b_parentq, b_workq, b_rewardLockq, b_heightq, b_manyq, b_holdsq, b_deliveredq, b_arrivedq, b_poolq, b_chainq, b_fromq, b_worthq, b_withinq, b_spentq, b_stackq, b_againq, b_chosenq⟩ := u
    exact nm_e (nm_e (br_c (fun _ => HJ _ hu) (fun _ => br_f (by decide) (HJ _ hu))))
  | succ d ih =>
    intro i fuel hi h1 hf hno
    obtain ⟨fuel, rfl⟩ : ∃ q, fuel = q + 1 := ⟨fuel - 1, by omega⟩
    have nx := ih (i + 1) fuel (by omega) (by omega) (by omega) (fun c hc => hno c (by omega))
    obtain ⟨_, _, _, hp⟩ := w.2.2.2.2.2 i (by omega)
    obtain ⟨p, p1, p2, _⟩ := hp (by omega)
    have p2' : b_parent i = nI p := p2
    have eic : (nI i).toNatClampNeg = i := pk_cl i
    refine pk_le blocks i (fun z => by omega) (fun z => br_t rfl ⟨pk_in i 32 (by omega), ?_⟩)
    rw [eic]
    refine br_c (fun z1 => nm_r (nI_1 i) nx) (fun z1 => ⟨pk_in i 32 (by omega), br_c (fun z2 => nm_r (nI_1 i) nx) (fun z2 => ⟨pk_in i 33 (by omega), pk_in p 32 (by omega) p2', ?_⟩)⟩)
    have hno' := hno i (Nat.le_refl _) (by omega) ((h01 i (by omega)).1.resolve_left z1) ((h01 i (by omega)).2.resolve_right z2)
    exact br_f (Int32.not_le.mpr hno') (nm_r (nI_1 i) nx)
end
theorem cn_h01 {D : pd_D} {st dl av cw wk : pd_F} {blocks ar tp : Nat} (hb32 : blocks ≤ 32) (B : cn_blk D st dl av cw wk blocks ar tp 99) : ∀ c, c < blocks → (dl c = 0 ∨ dl c = 1) ∧ (av c = -1 ∨ 0 ≤ av c) := by
  have har : ar ≤ 32 := by rw [B.2.2.1]; exact pd_cnt_le _ _
  intro c hc
  rcases B.1 c hc (by omega) with ⟨h1, h2, _⟩ | ⟨h1, h2, _⟩ | ⟨h1, ⟨a, a1, a2⟩, _⟩
  · exact ⟨Or.inl h1, Or.inl h2⟩
  · exact ⟨Or.inr h1, Or.inl h2⟩
  · exact ⟨Or.inr h1, Or.inr (by rw [a2]; exact nI_pos' (by omega))⟩
end
section
/-! deliver's way up against the reference's repeated search -/
section
variable {f_stackSize f_transactions f_putCount f_blocks f_tip f_poolCount f_queueCount : Int32} {a_tokenCount a_tokenOp a_tokenValue a_scriptInUse a_stack a_inputCount a_inputCoin a_inputA a_inputB a_outputCount a_outputAmount a_outputScript a_feeOf a_putRow a_parentOf a_heightOf a_chainWork a_blockState a_rewardAmount a_rewardScript a_blockSize a_blockTransaction a_laidBlock a_coinHeight a_coinSpent a_transactionHeight a_poolRow a_marked a_queue : Nat → Int32}
variable {g_made g_blocks g_arrivals g_tip g_pooled g_chainLength : Int32} {b_op b_arg b_length b_ins b_inCoin b_inA b_inB b_outs b_amount b_lock b_parent b_work b_rewardLock b_height b_many b_holds b_delivered b_arrived b_pool b_chain b_from b_worth b_within b_spent b_stack b_again b_chosen gfe grw : Nat → Int32}
theorem dv_loop {made blocks : Nat} (w : pd_wf (a_tokenCount, a_tokenOp, a_tokenValue, a_inputCount, a_inputCoin, a_inputA, a_inputB, a_outputCount, a_outputAmount, a_outputScript, a_parentOf, a_heightOf, a_rewardScript, a_blockSize, a_blockTransaction, a_feeOf, a_rewardAmount) made blocks) (ag : pd_ag (a_tokenCount, a_tokenOp, a_tokenValue, a_inputCount, a_inputCoin, a_inputA, a_inputB, a_outputCount, a_outputAmount, a_outputScript, a_parentOf, a_heightOf, a_rewardScript, a_blockSize, a_blockTransaction, a_feeOf, a_rewardAmount) (b_length, b_op, b_arg, b_ins, b_inCoin, b_inA, b_inB, b_outs, b_amount, b_lock, b_parent, b_height, b_rewardLock, b_many, b_holds, gfe, grw) made blocks) (tk : fx_tok a_tokenCount a_tokenOp a_tokenValue) (tkE : fx_tok b_length b_op b_arg) (fq : pd_feq (a_tokenCount, a_tokenOp, a_tokenValue, a_inputCount, a_inputCoin, a_inputA, a_inputB, a_outputCount, a_outputAmount, a_outputScript, a_parentOf, a_heightOf, a_rewardScript, a_blockSize, a_blockTransaction, a_feeOf, a_rewardAmount) made) (rq : pd_req (a_tokenCount, a_tokenOp, a_tokenValue, a_inputCount, a_inputCoin, a_inputA, a_inputB, a_outputCount, a_outputAmount, a_outputScript, a_parentOf, a_heightOf, a_rewardScript, a_blockSize, a_blockTransaction, a_feeOf, a_rewardAmount) blocks) (hp0 : b_parent 0 = -1) :
    ∀ (d b : Nat), b + d = blocks → 0 < b → ∀ (cnt ar tp n np : Nat) (st av pl : Nat → Int32), cn_blk (a_tokenCount, a_tokenOp, a_tokenValue, a_inputCount, a_inputCoin, a_inputA, a_inputB, a_outputCount, a_outputAmount, a_outputScript, a_parentOf, a_heightOf, a_rewardScript, a_blockSize, a_blockTransaction, a_feeOf, a_rewardAmount) st b_delivered av a_chainWork b_work blocks ar tp 99 → cn_rdb (a_tokenCount, a_tokenOp, a_tokenValue, a_inputCount, a_inputCoin, a_inputA, a_inputB, a_outputCount, a_outputAmount, a_outputScript, a_parentOf, a_heightOf, a_rewardScript, a_blockSize, a_blockTransaction, a_feeOf, a_rewardAmount) b_delivered av b → a_heightOf tp = nI n → n < 32 → pd_pool (a_tokenCount, a_tokenOp, a_tokenValue, a_inputCount, a_inputCoin, a_inputA, a_inputB, a_outputCount, a_outputAmount, a_outputScript, a_parentOf, a_heightOf, a_rewardScript, a_blockSize, a_blockTransaction, a_feeOf, a_rewardAmount) (pd_lay (a_tokenCount, a_tokenOp, a_tokenValue, a_inputCount, a_inputCoin, a_inputA, a_inputB, a_outputCount, a_outputAmount, a_outputScript, a_parentOf, a_heightOf, a_rewardScript, a_blockSize, a_blockTransaction, a_feeOf, a_rewardAmount) n tp) made pl np →
    ∃ (cnt' ar' tp' n' np' : Nat) (st' av' pl' : Nat → Int32), cn_blk (a_tokenCount, a_tokenOp, a_tokenValue, a_inputCount, a_inputCoin, a_inputA, a_inputB, a_outputCount, a_outputAmount, a_outputScript, a_parentOf, a_heightOf, a_rewardScript, a_blockSize, a_blockTransaction, a_feeOf, a_rewardAmount) st' b_delivered av' a_chainWork b_work blocks ar' tp' 99 ∧ cn_rdb (a_tokenCount, a_tokenOp, a_tokenValue, a_inputCount, a_inputCoin, a_inputA, a_inputB, a_outputCount, a_outputAmount, a_outputScript, a_parentOf, a_heightOf, a_rewardScript, a_blockSize, a_blockTransaction, a_feeOf, a_rewardAmount) b_delivered av' blocks ∧ a_heightOf tp' = nI n' ∧ n' < 32 ∧ pd_pool (a_tokenCount, a_tokenOp, a_tokenValue, a_inputCount, a_inputCoin, a_inputA, a_inputB, a_outputCount, a_outputAmount, a_outputScript, a_parentOf, a_heightOf, a_rewardScript, a_blockSize, a_blockTransaction, a_feeOf, a_rewardAmount) (pd_lay (a_tokenCount, a_tokenOp, a_tokenValue, a_inputCount, a_inputCoin, a_inputA, a_inputB, a_outputCount, a_outputAmount, a_outputScript, a_parentOf, a_heightOf, a_rewardScript, a_blockSize, a_blockTransaction, a_feeOf, a_rewardAmount) n' tp') made pl' np'
      ∧ (∀ (post : Int32 → SX → Prop) (ss qc : Int32) (sk mk laid q : Nat → Int32), (∀ h, h ≤ n → laid h = nI (pd_anc (a_tokenCount, a_tokenOp, a_tokenValue, a_inputCount, a_inputCoin, a_inputA, a_inputB, a_outputCount, a_outputAmount, a_outputScript, a_parentOf, a_heightOf, a_rewardScript, a_blockSize, a_blockTransaction, a_feeOf, a_rewardAmount) tp (n - h))) → (∀ (ss' qc' : Int32) (sk' mk' laid' q' : Nat → Int32), (∀ h, h ≤ n' → laid' h = nI (pd_anc (a_tokenCount, a_tokenOp, a_tokenValue, a_inputCount, a_inputCoin, a_inputA, a_inputB, a_outputCount, a_outputAmount, a_outputScript, a_parentOf, a_heightOf, a_rewardScript, a_blockSize, a_blockTransaction, a_feeOf, a_rewardAmount) tp' (n' - h))) → post (nI cnt') (ss', nI made, f_putCount, nI blocks, nI tp', nI np', qc', a_tokenCount, a_tokenOp, a_tokenValue, a_scriptInUse, sk', a_inputCount, a_inputCoin, a_inputA, a_inputB, a_outputCount, a_outputAmount, a_outputScript, a_feeOf, a_putRow, a_parentOf, a_heightOf, a_chainWork, st', a_rewardAmount, a_rewardScript, a_blockSize, a_blockTransaction, laid', (pd_lay (a_tokenCount, a_tokenOp, a_tokenValue, a_inputCount, a_inputCoin, a_inputA, a_inputB, a_outputCount, a_outputAmount, a_outputScript, a_parentOf, a_heightOf, a_rewardScript, a_blockSize, a_blockTransaction, a_feeOf, a_rewardAmount) n' tp').1, (pd_lay (a_tokenCount, a_tokenOp, a_tokenValue, a_inputCount, a_inputCoin, a_inputA, a_inputB, a_outputCount, a_outputAmount, a_outputScript, a_parentOf, a_heightOf, a_rewardScript, a_blockSize, a_blockTransaction, a_feeOf, a_rewardAmount) n' tp').2.1, (pd_lay (a_tokenCount, a_tokenOp, a_tokenValue, a_inputCount, a_inputCoin, a_inputA, a_inputB, a_outputCount, a_outputAmount, a_outputScript, a_parentOf, a_heightOf, a_rewardScript, a_blockSize, a_blockTransaction, a_feeOf, a_rewardAmount) n' tp').2.2, pl', mk', q')) →
          ∀ fuel, d < fuel → wX_deliver_30 post fuel (nI cnt) (nI b) ss (nI made) f_putCount (nI blocks) (nI tp) (nI np) qc a_tokenCount a_tokenOp a_tokenValue a_scriptInUse sk a_inputCount a_inputCoin a_inputA a_inputB a_outputCount a_outputAmount a_outputScript a_feeOf a_putRow a_parentOf a_heightOf a_chainWork st a_rewardAmount a_rewardScript a_blockSize a_blockTransaction laid ((pd_lay (a_tokenCount, a_tokenOp, a_tokenValue, a_inputCount, a_inputCoin, a_inputA, a_inputB, a_outputCount, a_outputAmount, a_outputScript, a_parentOf, a_heightOf, a_rewardScript, a_blockSize, a_blockTransaction, a_feeOf, a_rewardAmount) n tp).1) ((pd_lay (a_tokenCount, a_tokenOp, a_tokenValue, a_inputCount, a_inputCoin, a_inputA, a_inputB, a_outputCount, a_outputAmount, a_outputScript, a_parentOf, a_heightOf, a_rewardScript, a_blockSize, a_blockTransaction, a_feeOf, a_rewardAmount) n tp).2.1) ((pd_lay (a_tokenCount, a_tokenOp, a_tokenValue, a_inputCount, a_inputCoin, a_inputA, a_inputB, a_outputCount, a_outputAmount, a_outputScript, a_parentOf, a_heightOf, a_rewardScript, a_blockSize, a_blockTransaction, a_feeOf, a_rewardAmount) n tp).2.2) pl mk q)
      ∧ (∀ (post : Int32 → SY → Prop) (S : pd_S) (cl : Int32) (sk wo ch ag : Nat → Int32), pd_out S → (∀ (S' : pd_S) (wo' ch' sk' ag' : Nat → Int32) (cl' : Int32), pd_out S' → post (nI cnt') (nI made, nI blocks, nI ar', nI tp', nI np', cl', b_op, b_arg, b_length, b_ins, b_inCoin, b_inA, b_inB, b_outs, b_amount, b_lock, b_parent, b_work, b_rewardLock, b_height, b_many, b_holds, b_delivered, av', pl', ch', (S').1, wo', (S').2.2, (S').2.1, sk', ag', b_chosen)) →
          ∀ fuel, d + 1 < fuel → wY_arrive_4 post fuel (nI cnt) 1 (nI made) (nI blocks) (nI ar) (nI tp) (nI np) cl b_op b_arg b_length b_ins b_inCoin b_inA b_inB b_outs b_amount b_lock b_parent b_work b_rewardLock b_height b_many b_holds b_delivered av pl ch S.1 wo S.2.2 S.2.1 sk ag b_chosen) := by
  have hbk := w.2.1
  have hb1 := w.1
  have wE := pd_wf_ag w ag
  have hpaE : ∀ c, 0 < c → c < blocks → b_parent c = a_parentOf c := fun c c0 hc => (ag.2.1 c hc).2.2.2.2.1 c0
  intro d
  induction d with
  | zero =>
    intro b hb hb0 cnt ar tp n np st av pl B R eh hn P
    obtain rfl : b = blocks := by omega
    refine ⟨cnt, ar, tp, n, np, st, av, pl, B, R, eh, hn, P, fun post ss qc sk mk laid q hl H fuel hf => ?_, fun post S cl sk wo ch ag0 hS H fuel hf => ?_⟩
    · obtain ⟨fuel, rfl⟩ : ∃ q, fuel = q + 1 := ⟨fuel - 1, by omega⟩
      exact br_t (nI_le (Nat.le_refl _) (by omega)) (H _ _ _ _ _ _ hl)
    · obtain ⟨fuel, rfl⟩ : ∃ q, fuel = q + 2 := ⟨fuel - 2, by omega⟩
      refine br_f (by decide) ⟨b, ym_scanN wE rfl (cn_h01 hbk B) (br_t rfl (H _ _ _ _ _ _ hS)) (b - 1) 1 b (by omega) (by omega) (by omega) (fun c hc1 hc2 e1 e2 => ?_)⟩
      rw [hpaE c (by omega) hc2]
      exact R c (by omega) hc2 e1 e2
  | succ d ih =>
    intro b hb hb0 cnt ar tp n np st av pl B R eh hn P
    have htp := B.2.2.2.2.2.1.1
    have har : ar ≤ 32 := by rw [B.2.2.1]; exact pd_cnt_le _ _
    obtain ⟨_, _, _, hpar⟩ := w.2.2.2.2.2 b (by omega)
    obtain ⟨p, p1, p2, _⟩ := hpar hb0
    have p2' : a_parentOf b = nI p := p2
    have ppc : (pd_pa (a_tokenCount, a_tokenOp, a_tokenValue, a_inputCount, a_inputCoin, a_inputA, a_inputB, a_outputCount, a_outputAmount, a_outputScript, a_parentOf, a_heightOf, a_rewardScript, a_blockSize, a_blockTransaction, a_feeOf, a_rewardAmount) b).toNatClampNeg = p := pd_cl p2 (by omega)
    have epb : a_parentOf (nI b).toNatClampNeg = nI p := by rw [pk_cl b]; exact p2'
    -- a step that changes nothing
    have skip : (b_delivered b = 1 → av b = -1 → av p < 0) → (st b = 1 → ¬ 2 ≤ st p) → ∃ (cnt' ar' tp' n' np' : Nat) (st' av' pl' : Nat → Int32), cn_blk (a_tokenCount, a_tokenOp, a_tokenValue, a_inputCount, a_inputCoin, a_inputA, a_inputB, a_outputCount, a_outputAmount, a_outputScript, a_parentOf, a_heightOf, a_rewardScript, a_blockSize, a_blockTransaction, a_feeOf, a_rewardAmount) st' b_delivered av' a_chainWork b_work blocks ar' tp' 99 ∧ cn_rdb (a_tokenCount, a_tokenOp, a_tokenValue, a_inputCount, a_inputCoin, a_inputA, a_inputB, a_outputCount, a_outputAmount, a_outputScript, a_parentOf, a_heightOf, a_rewardScript, a_blockSize, a_blockTransaction, a_feeOf, a_rewardAmount) b_delivered av' blocks ∧ a_heightOf tp' = nI n' ∧ n' < 32 ∧ pd_pool (a_tokenCount, a_tokenOp, a_tokenValue, a_inputCount, a_inputCoin, a_inputA, a_inputB, a_outputCount, a_outputAmount, a_outputScript, a_parentOf, a_heightOf, a_rewardScript, a_blockSize, a_blockTransaction, a_feeOf, a_rewardAmount) (pd_lay (a_tokenCount, a_tokenOp, a_tokenValue, a_inputCount, a_inputCoin, a_inputA, a_inputB, a_outputCount, a_outputAmount, a_outputScript, a_parentOf, a_heightOf, a_rewardScript, a_blockSize, a_blockTransaction, a_feeOf, a_rewardAmount) n' tp') made pl' np'
      ∧ (∀ (post : Int32 → SX → Prop) (ss qc : Int32) (sk mk laid q : Nat → Int32), (∀ h, h ≤ n → laid h = nI (pd_anc (a_tokenCount, a_tokenOp, a_tokenValue, a_inputCount, a_inputCoin, a_inputA, a_inputB, a_outputCount, a_outputAmount, a_outputScript, a_parentOf, a_heightOf, a_rewardScript, a_blockSize, a_blockTransaction, a_feeOf, a_rewardAmount) tp (n - h))) → (∀ (ss' qc' : Int32) (sk' mk' laid' q' : Nat → Int32), (∀ h, h ≤ n' → laid' h = nI (pd_anc (a_tokenCount, a_tokenOp, a_tokenValue, a_inputCount, a_inputCoin, a_inputA, a_inputB, a_outputCount, a_outputAmount, a_outputScript, a_parentOf, a_heightOf, a_rewardScript, a_blockSize, a_blockTransaction, a_feeOf, a_rewardAmount) tp' (n' - h))) → post (nI cnt') (ss', nI made, f_putCount, nI blocks, nI tp', nI np', qc', a_tokenCount, a_tokenOp, a_tokenValue, a_scriptInUse, sk', a_inputCount, a_inputCoin, a_inputA, a_inputB, a_outputCount, a_outputAmount, a_outputScript, a_feeOf, a_putRow, a_parentOf, a_heightOf, a_chainWork, st', a_rewardAmount, a_rewardScript, a_blockSize, a_blockTransaction, laid', (pd_lay (a_tokenCount, a_tokenOp, a_tokenValue, a_inputCount, a_inputCoin, a_inputA, a_inputB, a_outputCount, a_outputAmount, a_outputScript, a_parentOf, a_heightOf, a_rewardScript, a_blockSize, a_blockTransaction, a_feeOf, a_rewardAmount) n' tp').1, (pd_lay (a_tokenCount, a_tokenOp, a_tokenValue, a_inputCount, a_inputCoin, a_inputA, a_inputB, a_outputCount, a_outputAmount, a_outputScript, a_parentOf, a_heightOf, a_rewardScript, a_blockSize, a_blockTransaction, a_feeOf, a_rewardAmount) n' tp').2.1, (pd_lay (a_tokenCount, a_tokenOp, a_tokenValue, a_inputCount, a_inputCoin, a_inputA, a_inputB, a_outputCount, a_outputAmount, a_outputScript, a_parentOf, a_heightOf, a_rewardScript, a_blockSize, a_blockTransaction, a_feeOf, a_rewardAmount) n' tp').2.2, pl', mk', q')) →
          ∀ fuel, d + 1 < fuel → wX_deliver_30 post fuel (nI cnt) (nI b) ss (nI made) f_putCount (nI blocks) (nI tp) (nI np) qc a_tokenCount a_tokenOp a_tokenValue a_scriptInUse sk a_inputCount a_inputCoin a_inputA a_inputB a_outputCount a_outputAmount a_outputScript a_feeOf a_putRow a_parentOf a_heightOf a_chainWork st a_rewardAmount a_rewardScript a_blockSize a_blockTransaction laid ((pd_lay (a_tokenCount, a_tokenOp, a_tokenValue, a_inputCount, a_inputCoin, a_inputA, a_inputB, a_outputCount, a_outputAmount, a_outputScript, a_parentOf, a_heightOf, a_rewardScript, a_blockSize, a_blockTransaction, a_feeOf, a_rewardAmount) n tp).1) ((pd_lay (a_tokenCount, a_tokenOp, a_tokenValue, a_inputCount, a_inputCoin, a_inputA, a_inputB, a_outputCount, a_outputAmount, a_outputScript, a_parentOf, a_heightOf, a_rewardScript, a_blockSize, a_blockTransaction, a_feeOf, a_rewardAmount) n tp).2.1) ((pd_lay (a_tokenCount, a_tokenOp, a_tokenValue, a_inputCount, a_inputCoin, a_inputA, a_inputB, a_outputCount, a_outputAmount, a_outputScript, a_parentOf, a_heightOf, a_rewardScript, a_blockSize, a_blockTransaction, a_feeOf, a_rewardAmount) n tp).2.2) pl mk q)
      ∧ (∀ (post : Int32 → SY → Prop) (S : pd_S) (cl : Int32) (sk wo ch ag : Nat → Int32), pd_out S → (∀ (S' : pd_S) (wo' ch' sk' ag' : Nat → Int32) (cl' : Int32), pd_out S' → post (nI cnt') (nI made, nI blocks, nI ar', nI tp', nI np', cl', b_op, b_arg, b_length, b_ins, b_inCoin, b_inA, b_inB, b_outs, b_amount, b_lock, b_parent, b_work, b_rewardLock, b_height, b_many, b_holds, b_delivered, av', pl', ch', (S').1, wo', (S').2.2, (S').2.1, sk', ag', b_chosen)) →
          ∀ fuel, d + 1 + 1 < fuel → wY_arrive_4 post fuel (nI cnt) 1 (nI made) (nI blocks) (nI ar) (nI tp) (nI np) cl b_op b_arg b_length b_ins b_inCoin b_inA b_inB b_outs b_amount b_lock b_parent b_work b_rewardLock b_height b_many b_holds b_delivered av pl ch S.1 wo S.2.2 S.2.1 sk ag b_chosen) := by
      intro hq1 hq2
      have R' : cn_rdb (a_tokenCount, a_tokenOp, a_tokenValue, a_inputCount, a_inputCoin, a_inputA, a_inputB, a_outputCount, a_outputAmount, a_outputScript, a_parentOf, a_heightOf, a_rewardScript, a_blockSize, a_blockTransaction, a_feeOf, a_rewardAmount) b_delivered av (b + 1) := by
        intro c c0 hc e1 e2
        by_cases e : c = b
        · subst e; rw [ppc]; exact hq1 e1 e2
        · exact R c c0 (by omega) e1 e2
      obtain ⟨cnt', ar', tp', n', np', st', av', pl', B', R2, eh', hn', P', hX, hY⟩ := ih (b + 1) (by omega) (by omega) cnt ar tp n np st av pl B R' eh hn P
      refine ⟨cnt', ar', tp', n', np', st', av', pl', B', R2, eh', hn', P', fun post ss qc sk mk laid q hl H fuel hf => ?_, fun post S cl sk wo ch ag0 hS H fuel hf => hY post S cl sk wo ch ag0 hS H fuel (by omega)⟩
      obtain ⟨fuel, rfl⟩ : ∃ q, fuel = q + 1 := ⟨fuel - 1, by omega⟩
      have nx := hX post ss qc sk mk laid q hl H fuel (by omega)
      refine pk_le blocks b (fun z => by omega) (fun z => ⟨pk_in b 32 (by omega), ?_⟩)
      rw [epb, pk_cl b, pk_cl p]
      exact br_c (fun z1 => ⟨pk_in b 32 (by omega), pk_in p 32 (by omega), br_f (hq2 z1) (nm_r (nI_1 b) nx)⟩) (fun z1 => nm_r (nI_1 b) nx)
    rcases B.1 b (by omega) (by omega) with ⟨d1, d2, d3⟩ | ⟨d1, d2, d3⟩ | ⟨d1, ⟨a, a1, a2⟩, d3, d4⟩
    · exact skip (fun q => by rw [d1] at q; exact absurd q (by decide)) (fun q => by rw [d3] at q; exact absurd q (by decide))
    · by_cases hpa : 0 ≤ av p
      · -- b arrives
        obtain ⟨T, nT, np1, pl1, z, hT, eT, hnT, P1, hz, B1, hX1, hY1⟩ := ar_one (a_blockState := st) (b_arrived := av) (b := b) (pl := pl) (f_putCount := f_putCount) (a_scriptInUse := a_scriptInUse) (a_putRow := a_putRow) (b_chosen := b_chosen) w ag tk tkE fq rq hp0 (cn_blk_x hbk B d2) (by omega) hb0 d1 d2 (by have : (a_parentOf b).toNatClampNeg = p := ppc; rw [this]; exact hpa) eh hn P
        obtain ⟨cnt', ar', tp', n', np', st', av', pl', B', R2, eh', hn', P', hX, hY⟩ := ih (b + 1) (by omega) (by omega) (cnt + 1) (ar + 1) T nT np1 (upd st b z) (upd av b (nI ar)) pl1 B1 (cn_rdb_arr w (by omega) (by omega) R) eT hnT P1
        refine ⟨cnt', ar', tp', n', np', st', av', pl', B', R2, eh', hn', P', fun post ss qc sk mk laid q hl H fuel hf => ?_, fun post S cl sk wo ch ag0 hS H fuel hf => ?_⟩
        · obtain ⟨fuel, rfl⟩ : ∃ q, fuel = q + 1 := ⟨fuel - 1, by omega⟩
          have hst : 2 ≤ st p := by
            rcases B.1 p (by omega) (by omega) with ⟨_, e, _⟩ | ⟨_, e, _⟩ | ⟨_, _, _, h | h⟩
            · rw [e] at hpa; exact (pd_m1 hpa).elim
            · rw [e] at hpa; exact (pd_m1 hpa).elim
            · rw [h.1]; decide
            · rw [h.1]; decide
          refine pk_le blocks b (fun z => by omega) (fun z => ⟨pk_in b 32 (by omega), ?_⟩)
          rw [epb, pk_cl b, pk_cl p]
          refine br_t d3 ⟨pk_in b 32 (by omega), pk_in p 32 (by omega), br_t hst ?_⟩
          exact hX1 _ _ ss qc sk mk laid q (pd_inv_out (pd_inv_lay w n tp htp eh hn)) fun ss1 sk1 mk1 laid1 qc1 q1 hl1 => nm_r (nI_1 cnt) (nm_r (nI_1 b) (hX post ss1 qc1 sk1 mk1 laid1 q1 hl1 H fuel (by omega)))
        · obtain ⟨fuel, rfl⟩ : ∃ q, fuel = q + 1 := ⟨fuel - 1, by omega⟩
          refine br_f (by decide) ⟨b + 1, ym_scanF (b := b) (ar := ar) (Q := fun u => ∃ (S' : pd_S) (wo' ch' sk' ag' : Nat → Int32) (cl' : Int32), pd_out S' ∧ u = (nI made, nI blocks, nI (ar + 1), nI T, nI np1, cl', b_op, b_arg, b_length, b_ins, b_inCoin, b_inA, b_inB, b_outs, b_amount, b_lock, b_parent, b_work, b_rewardLock, b_height, b_many, b_holds, b_delivered, upd av b (nI ar), pl1, ch', (S').1, wo', (S').2.2, (S').2.1, sk', ag', b_chosen)) wE rfl rfl (by omega) hb0 (cn_h01 hbk B) d1 d2 ?_ (fun post' hq => hY1 post' S cl sk wo ch ag0 hS fun S' wo' ch' sk' ag' cl' ho => hq _ ⟨S', wo', ch', sk', ag', cl', ho, rfl⟩) ?_ (b - 1) 1 (b + 1) (by omega) (by omega) (by omega) (fun c hc1 hc2 e1 e2 => ?_)⟩
          · rw [hpaE b hb0 (by omega)]
            have : (a_parentOf b).toNatClampNeg = p := ppc
            rw [this]; exact hpa
          · rintro u ⟨S', wo', ch', sk', ag', cl', ho, rfl⟩
            dsimp only
            rw [nI_1 cnt]
            exact hY post S' cl' sk' wo' ch' ag' ho H fuel (by omega)
          · rw [hpaE c (by omega) (by omega)]
            exact R c (by omega) hc2 e1 e2
      · refine skip (fun _ _ => Int32.not_le.mp hpa) (fun _ => ?_)
        rcases B.1 p (by omega) (by omega) with ⟨_, _, e⟩ | ⟨_, _, e⟩ | ⟨_, ⟨a, a1, a2⟩, _⟩
        · rw [e]; decide
        · rw [e]; decide
        · exact (hpa (by rw [a2]; exact nI_pos' (by omega))).elim
    · refine skip (fun _ q => ?_) (fun q => ?_)
      · rw [a2] at q
        have := nI_pos' (n := a) (by omega)
        rw [q] at this
        exact (pd_m1 this).elim
      · rcases d4 with h | h
        · rw [h.1] at q; exact absurd q (by decide)
        · rw [h.1] at q; exact absurd q (by decide)
end
theorem i_vc_deliver {k : Nat} {u : SX} {v : SY} (I : i_Rel k u v) (hk : k + 4 ≤ 2048) (v1 : Int32) : wpX_deliver (fun r u' => wpY_deliver (fun r' v' => r' = r ∧ i_Rel (k + 4) u' v') v v1) u v1 := by
  obtain ⟨f_stackSize, f_transactions, f_putCount, f_blocks, f_tip, f_poolCount, f_queueCount, a_tokenCount, a_tokenOp, a_tokenValue, a_scriptInUse, a_stack, a_inputCount, a_inputCoin, a_inputA, a_inputB, a_outputCount, a_outputAmount, a_outputScript, a_feeOf, a_putRow, a_parentOf, a_heightOf, a_chainWork, a_blockState, a_rewardAmount, a_rewardScript, a_blockSize, a_blockTransaction, a_laidBlock, a_coinHeight, a_coinSpent, a_transactionHeight, a_poolRow, a_marked, a_queue⟩ := u
  obtain ⟨g_made, g_blocks, g_arrivals, g_tip, g_pooled, g_chainLength, b_op, b_arg, b_length, b_ins, b_inCoin, b_inA, b_inB, b_outs, b_amount, b_lock, b_parent, b_work, b_rewardLock, b_height, b_many, b_holds, b_delivered, b_arrived, b_pool, b_chain, b_from, b_worth, b_within, b_spent, b_stack, b_again, b_chosen⟩ := v
  have I' := I
  obtain ⟨made, blocks, tp, n, np, pc, ar, ⟨rfl, rfl, rfl, rfl, rfl⟩, ⟨rfl, rfl, rfl, rfl, rfl⟩, ⟨rfl, rfl, rfl, rfl⟩, ⟨rfl, rfl, rfl⟩, ST, B, RD, ⟨eh, hn⟩, hl, P, hS⟩ := I
  have ST0 := ST
  obtain ⟨tk, w, ag, fq, rq, hp0, us, df, pu, fr⟩ := ST0
  have hbk := w.2.1
  have har : ar ≤ 32 := by rw [B.2.2.1]; exact pd_cnt_le _ _
  rcases pk_ix v1 (n := blocks) (by omega) with h | h | ⟨b, hb, rfl⟩
  · exact br_t h (br_t rfl (br_t h (br_t rfl ⟨rfl, I'⟩)))
  · have h0 : ¬ v1 < 0 := Int32.not_lt.mpr (Int32.le_trans (nI_pos' (by omega)) h)
    exact br_f h0 (br_t h (br_t rfl (br_f h0 (br_t h (br_t rfl ⟨rfl, I'⟩)))))
  have b0 : ¬ nI b < 0 := nI_pos (by omega)
  have b1 : ¬ nI blocks ≤ nI b := nI_ge hb (by omega)
  have ebc : (nI b).toNatClampNeg = b := pk_cl b
  refine br_f b0 (br_f b1 (br_f (by decide) ⟨pk_in b 32 (by omega), ?_⟩))
  rw [ebc]
  have bad : ¬ a_blockState b = 0 → b_delivered b = 1 → ((a_blockState b = 0 → vp_in (nI b) 32 ∧ ∀ (a_blockState_42 : Nat → Int32), a_blockState_42 = upd a_blockState b 1 → (∃ n30 : Nat, wX_deliver_30 (fun r u' => wpY_deliver (fun r' v' => r' = r ∧ i_Rel (k + 4) u' v') (nI made, nI blocks, nI ar, nI tp, nI np, g_chainLength, a_tokenOp, a_tokenValue, a_tokenCount, b_ins, b_inCoin, b_inA, b_inB, b_outs, b_amount, b_lock, b_parent, b_work, b_rewardLock, b_height, b_many, b_holds, b_delivered, b_arrived, a_poolRow, b_chain, b_from, b_worth, b_within, b_spent, b_stack, b_again, b_chosen) (nI b)) n30 0 (nI b) f_stackSize (nI made) (nI pc) (nI blocks) (nI tp) (nI np) f_queueCount a_tokenCount a_tokenOp a_tokenValue a_scriptInUse a_stack a_inputCount a_inputCoin a_inputA a_inputB a_outputCount a_outputAmount a_outputScript a_feeOf a_putRow a_parentOf a_heightOf a_chainWork a_blockState_42 a_rewardAmount a_rewardScript a_blockSize a_blockTransaction a_laidBlock ((pd_lay (a_tokenCount, a_tokenOp, a_tokenValue, a_inputCount, a_inputCoin, a_inputA, a_inputB, a_outputCount, a_outputAmount, a_outputScript, a_parentOf, a_heightOf, a_rewardScript, a_blockSize, a_blockTransaction, a_feeOf, a_rewardAmount) n tp).1) ((pd_lay (a_tokenCount, a_tokenOp, a_tokenValue, a_inputCount, a_inputCoin, a_inputA, a_inputB, a_outputCount, a_outputAmount, a_outputScript, a_parentOf, a_heightOf, a_rewardScript, a_blockSize, a_blockTransaction, a_feeOf, a_rewardAmount) n tp).2.1) ((pd_lay (a_tokenCount, a_tokenOp, a_tokenValue, a_inputCount, a_inputCoin, a_inputA, a_inputB, a_outputCount, a_outputAmount, a_outputScript, a_parentOf, a_heightOf, a_rewardScript, a_blockSize, a_blockTransaction, a_feeOf, a_rewardAmount) n tp).2.2) a_poolRow a_marked a_queue)) ∧ (¬ a_blockState b = 0 → wpY_deliver (fun r' v' => r' = -1 ∧ i_Rel (k + 4) (f_stackSize, nI made, nI pc, nI blocks, nI tp, nI np, f_queueCount, a_tokenCount, a_tokenOp, a_tokenValue, a_scriptInUse, a_stack, a_inputCount, a_inputCoin, a_inputA, a_inputB, a_outputCount, a_outputAmount, a_outputScript, a_feeOf, a_putRow, a_parentOf, a_heightOf, a_chainWork, a_blockState, a_rewardAmount, a_rewardScript, a_blockSize, a_blockTransaction, a_laidBlock, (pd_lay (a_tokenCount, a_tokenOp, a_tokenValue, a_inputCount, a_inputCoin, a_inputA, a_inputB, a_outputCount, a_outputAmount, a_outputScript, a_parentOf, a_heightOf, a_rewardScript, a_blockSize, a_blockTransaction, a_feeOf, a_rewardAmount) n tp).1, (pd_lay (a_tokenCount, a_tokenOp, a_tokenValue, a_inputCount, a_inputCoin, a_inputA, a_inputB, a_outputCount, a_outputAmount, a_outputScript, a_parentOf, a_heightOf, a_rewardScript, a_blockSize, a_blockTransaction, a_feeOf, a_rewardAmount) n tp).2.1, (pd_lay (a_tokenCount, a_tokenOp, a_tokenValue, a_inputCount, a_inputCoin, a_inputA, a_inputB, a_outputCount, a_outputAmount, a_outputScript, a_parentOf, a_heightOf, a_rewardScript, a_blockSize, a_blockTransaction, a_feeOf, a_rewardAmount) n tp).2.2, a_poolRow, a_marked, a_queue) v') (nI made, nI blocks, nI ar, nI tp, nI np, g_chainLength, a_tokenOp, a_tokenValue, a_tokenCount, b_ins, b_inCoin, b_inA, b_inB, b_outs, b_amount, b_lock, b_parent, b_work, b_rewardLock, b_height, b_many, b_holds, b_delivered, b_arrived, a_poolRow, b_chain, b_from, b_worth, b_within, b_spent, b_stack, b_again, b_chosen) (nI b))) := by
    intro hs hd
    refine br_f hs (br_f b0 (br_f b1 (br_f (by decide) ⟨pk_in b 32 (by omega), ?_⟩)))
    rw [ebc]
    exact br_f (by rw [hd]; decide) ⟨rfl, I'⟩
  rcases B.1 b hb (by omega) with ⟨d1, d2, d3⟩ | ⟨d1, d2, d3⟩ | ⟨d1, d2, d3, d4⟩
  · have hb0 : 0 < b := by
      rcases Nat.eq_zero_or_pos b with e | e
      · have := B.2.2.2.2.2.2.2
        rw [e] at d2
        rw [d2] at this
        exact (pd_m1 this).elim
      · exact e
    have B1 := cn_dlv hbk B hb d1
    have R1 : cn_rdb (a_tokenCount, a_tokenOp, a_tokenValue, a_inputCount, a_inputCoin, a_inputA, a_inputB, a_outputCount, a_outputAmount, a_outputScript, a_parentOf, a_heightOf, a_rewardScript, a_blockSize, a_blockTransaction, a_feeOf, a_rewardAmount) (upd b_delivered b 1) b_arrived b := by
      intro c c0 hc e1 e2
      rw [pk_un (by omega)] at e1
      exact RD c c0 (by omega) e1 e2
    obtain ⟨cnt', ar', tp', n', np', st', av', pl', B', R2, eh', hn', P', hX, hY⟩ := dv_loop (f_putCount := nI pc) (a_scriptInUse := a_scriptInUse) (a_putRow := a_putRow) (b_chosen := b_chosen) w ag tk tk fq rq hp0 (blocks - b) b (by omega) hb0 0 ar tp n np (upd a_blockState b 1) b_arrived a_poolRow B1 R1 eh hn P
    refine br_t d3 ⟨pk_in b 32 (by omega), nm_e ⟨blocks - b + 1, ?_⟩⟩
    refine hX _ f_stackSize f_queueCount a_stack a_marked a_laidBlock a_queue hl (fun ss' qc' sk' mk' laid' q' hl' => ?_) _ (by omega)
    refine br_f b0 (br_f b1 (br_f (by decide) ⟨pk_in b 32 (by omega), ?_⟩))
    rw [ebc]
    refine br_t d1 ⟨pk_in b 32 (by omega), nm_r (by rw [xb_1]) ⟨blocks - b + 2, ?_⟩⟩
    refine hY _ (b_from, b_spent, b_within) g_chainLength b_stack b_worth b_chain b_again hS (fun S' wo' ch' sk' ag' cl' ho => ⟨rfl, ?_⟩) _ (by omega)
    exact ⟨made, blocks, tp', n', np', pc, ar', ⟨rfl, rfl, rfl, rfl, rfl⟩, ⟨rfl, rfl, rfl, rfl, rfl⟩, ⟨rfl, rfl, rfl, rfl⟩, ⟨rfl, rfl, rfl⟩, ST, B', R2, ⟨eh', hn'⟩, hl', P', ho⟩
  · exact bad (by rw [d3]; decide) d1
  · refine bad (fun q => ?_) d1
    rcases d4 with h | h
    · rw [h.1] at q; exact absurd q (by decide)
    · rw [h.1] at q; exact absurd q (by decide)
end
section
/-! forge: which transactions are chosen -/
noncomputable def bs_f (el : Nat → Prop) (fe : Nat → Int32) : Nat → Option Nat
  | 0 => none
  | k + 1 => @ite _ (el k) (Classical.propDecidable _) (match bs_f el fe k with | none => some k | some b => if fe k ≤ fe b then some b else some k) (bs_f el fe k)
theorem bs_t {el : Nat → Prop} {fe : Nat → Int32} {k : Nat} (h : el k) : bs_f el fe (k + 1) = (match bs_f el fe k with | none => some k | some b => if fe k ≤ fe b then some b else some k) := by
  rw [bs_f]; exact @if_pos _ (Classical.propDecidable _) h _ _ _
theorem bs_n {el : Nat → Prop} {fe : Nat → Int32} {k : Nat} (h : ¬ el k) : bs_f el fe (k + 1) = bs_f el fe k := by
  rw [bs_f]; exact @if_neg _ (Classical.propDecidable _) h _ _ _
theorem bs_lt {el : Nat → Prop} {fe : Nat → Int32} : ∀ k b, bs_f el fe k = some b → b < k ∧ el b := by
  intro k
  induction k with
  | zero => intro b h; exact absurd h (by rw [bs_f]; exact fun z => nomatch z)
  | succ k ih =>
    intro b h
    rcases Classical.em (el k) with e | e
    · rw [bs_t e] at h
      cases hb : bs_f el fe k with
      | none =>
        rw [hb] at h
        have : k = b := Option.some.inj h
        subst this
        exact ⟨by omega, e⟩
      | some c =>
        rw [hb] at h
        have hc := ih c hb
        dsimp only at h
        split at h
        · have : c = b := Option.some.inj h
          subst this
          exact ⟨by omega, hc.2⟩
        · have : k = b := Option.some.inj h
          subst this
          exact ⟨by omega, e⟩
    · rw [bs_n e] at h
      have := ih b h
      exact ⟨by omega, this.2⟩
def bs_x (o : Option Nat) : Int32 := match o with | none => -1 | some b => nI b
def bs_y (pl : pd_F) (o : Option Nat) : Int32 := match o with | none => -1 | some b => pl b
def el_p (D : pd_D) (pl mk : pd_F) (np k : Nat) : Prop := mk k = 0 ∧ ¬ ∃ j, j < np ∧ mk j = 0 ∧ pd_needs D (pl k).toNatClampNeg (pl j).toNatClampNeg
section
variable {f_stackSize f_transactions f_putCount f_blocks f_tip f_poolCount f_queueCount : Int32} {a_tokenCount a_tokenOp a_tokenValue a_scriptInUse a_stack a_inputCount a_inputCoin a_inputA a_inputB a_outputCount a_outputAmount a_outputScript a_feeOf a_putRow a_parentOf a_heightOf a_chainWork a_blockState a_rewardAmount a_rewardScript a_blockSize a_blockTransaction a_laidBlock a_coinHeight a_coinSpent a_transactionHeight a_poolRow a_marked a_queue : Nat → Int32}
theorem xm_waits {made blocks np k : Nat} (w : pd_wf (a_tokenCount, a_tokenOp, a_tokenValue, a_inputCount, a_inputCoin, a_inputA, a_inputB, a_outputCount, a_outputAmount, a_outputScript, a_parentOf, a_heightOf, a_rewardScript, a_blockSize, a_blockTransaction, a_feeOf, a_rewardAmount) made blocks) (hnp : np ≤ 12) (ep : f_poolCount = nI np) (hp : pd_pl a_poolRow np made) (hk : k < np) {post : Int32 → Prop} (H1 : (∃ j, j < np ∧ a_marked j = 0 ∧ pd_needs (a_tokenCount, a_tokenOp, a_tokenValue, a_inputCount, a_inputCoin, a_inputA, a_inputB, a_outputCount, a_outputAmount, a_outputScript, a_parentOf, a_heightOf, a_rewardScript, a_blockSize, a_blockTransaction, a_feeOf, a_rewardAmount) (a_poolRow k).toNatClampNeg (a_poolRow j).toNatClampNeg) → post 1) (H0 : ¬ (∃ j, j < np ∧ a_marked j = 0 ∧ pd_needs (a_tokenCount, a_tokenOp, a_tokenValue, a_inputCount, a_inputCoin, a_inputA, a_inputB, a_outputCount, a_outputAmount, a_outputScript, a_parentOf, a_heightOf, a_rewardScript, a_blockSize, a_blockTransaction, a_feeOf, a_rewardAmount) (a_poolRow k).toNatClampNeg (a_poolRow j).toNatClampNeg) → post 0) : wpX_waitsForUnmarked post (f_stackSize, f_transactions, f_putCount, f_blocks, f_tip, f_poolCount, f_queueCount, a_tokenCount, a_tokenOp, a_tokenValue, a_scriptInUse, a_stack, a_inputCount, a_inputCoin, a_inputA, a_inputB, a_outputCount, a_outputAmount, a_outputScript, a_feeOf, a_putRow, a_parentOf, a_heightOf, a_chainWork, a_blockState, a_rewardAmount, a_rewardScript, a_blockSize, a_blockTransaction, a_laidBlock, a_coinHeight, a_coinSpent, a_transactionHeight, a_poolRow, a_marked, a_queue) (nI k) := by
  have hm := w.2.2.1
  subst ep
  obtain ⟨u, hu, eu⟩ := hp k hk
  have euc := pd_cl eu (by omega)
  rw [euc] at H1 H0
  have key : ∀ (d i fuel : Nat), i + d = np → d < fuel → (∀ j, j < i → ¬ (a_marked j = 0 ∧ pd_needs (a_tokenCount, a_tokenOp, a_tokenValue, a_inputCount, a_inputCoin, a_inputA, a_inputB, a_outputCount, a_outputAmount, a_outputScript, a_parentOf, a_heightOf, a_rewardScript, a_blockSize, a_blockTransaction, a_feeOf, a_rewardAmount) u (a_poolRow j).toNatClampNeg)) → wX_waitsForUnmarked_2 post (nI k) f_stackSize f_transactions f_putCount f_blocks f_tip (nI np) f_queueCount a_tokenCount a_tokenOp a_tokenValue a_scriptInUse a_stack a_inputCount a_inputCoin a_inputA a_inputB a_outputCount a_outputAmount a_outputScript a_feeOf a_putRow a_parentOf a_heightOf a_chainWork a_blockState a_rewardAmount a_rewardScript a_blockSize a_blockTransaction a_laidBlock a_coinHeight a_coinSpent a_transactionHeight a_poolRow a_marked a_queue fuel (nI i) := by
    intro d
    induction d with
    | zero =>
      intro i fuel hi hf hno
      obtain ⟨fuel, rfl⟩ : ∃ q, fuel = q + 1 := ⟨fuel - 1, by omega⟩
      obtain rfl : i = np := by omega
      exact br_t (nI_le (Nat.le_refl _) (by omega)) (H0 fun ⟨j, h1, h2⟩ => hno j h1 h2)
    | succ d ih =>
      intro i fuel hi hf hno
      obtain ⟨fuel, rfl⟩ : ∃ q, fuel = q + 1 := ⟨fuel - 1, by omega⟩
      obtain ⟨u2, hu2, eu2⟩ := hp i (by omega)
      have euc2 := pd_cl eu2 (by omega)
      have nxt : ¬ (a_marked i = 0 ∧ pd_needs (a_tokenCount, a_tokenOp, a_tokenValue, a_inputCount, a_inputCoin, a_inputA, a_inputB, a_outputCount, a_outputAmount, a_outputScript, a_parentOf, a_heightOf, a_rewardScript, a_blockSize, a_blockTransaction, a_feeOf, a_rewardAmount) u u2) → wX_waitsForUnmarked_2 post (nI k) f_stackSize f_transactions f_putCount f_blocks f_tip (nI np) f_queueCount a_tokenCount a_tokenOp a_tokenValue a_scriptInUse a_stack a_inputCount a_inputCoin a_inputA a_inputB a_outputCount a_outputAmount a_outputScript a_feeOf a_putRow a_parentOf a_heightOf a_chainWork a_blockState a_rewardAmount a_rewardScript a_blockSize a_blockTransaction a_laidBlock a_coinHeight a_coinSpent a_transactionHeight a_poolRow a_marked a_queue fuel (nI (i + 1)) := fun q => ih (i + 1) fuel (by omega) (by omega) fun j hj => by
        by_cases e : j = i
        · subst e; rw [euc2]; exact q
        · exact hno j (by omega)
      have ek : a_poolRow (nI k).toNatClampNeg = nI u := by rw [pk_cl k]; exact eu
      refine pk_le np i (fun z => by omega) (fun z => ⟨pk_in i 12 (by omega), ?_⟩)
      rw [ek, pk_cl i, eu2]
      refine br_c (fun q => ⟨pk_in k 12 (by omega), pk_in i 12 (by omega), xq_needs w hu (by omega) (fun z1 => br_f (by decide) (H1 ⟨i, by omega, q, by rw [euc2]; exact z1⟩)) (fun z1 => br_t rfl (nm_r (nI_1 i) (nxt fun q' => z1 q'.2)))⟩) (fun q => nm_r (nI_1 i) (nxt fun q' => q q'.1))
  exact ⟨np + 1, key np 0 (np + 1) (by omega) (by omega) (fun j hj => by omega)⟩
theorem xm_best {made blocks np : Nat} (w : pd_wf (a_tokenCount, a_tokenOp, a_tokenValue, a_inputCount, a_inputCoin, a_inputA, a_inputB, a_outputCount, a_outputAmount, a_outputScript, a_parentOf, a_heightOf, a_rewardScript, a_blockSize, a_blockTransaction, a_feeOf, a_rewardAmount) made blocks) (hnp : np ≤ 12) (ep : f_poolCount = nI np) (hp : pd_pl a_poolRow np made) {post : Int32 → Prop} (H : post (bs_x (bs_f (el_p (a_tokenCount, a_tokenOp, a_tokenValue, a_inputCount, a_inputCoin, a_inputA, a_inputB, a_outputCount, a_outputAmount, a_outputScript, a_parentOf, a_heightOf, a_rewardScript, a_blockSize, a_blockTransaction, a_feeOf, a_rewardAmount) a_poolRow a_marked np) (fun k => a_feeOf (a_poolRow k).toNatClampNeg) np))) : wpX_bestUnmarked post (f_stackSize, f_transactions, f_putCount, f_blocks, f_tip, f_poolCount, f_queueCount, a_tokenCount, a_tokenOp, a_tokenValue, a_scriptInUse, a_stack, a_inputCount, a_inputCoin, a_inputA, a_inputB, a_outputCount, a_outputAmount, a_outputScript, a_feeOf, a_putRow, a_parentOf, a_heightOf, a_chainWork, a_blockState, a_rewardAmount, a_rewardScript, a_blockSize, a_blockTransaction, a_laidBlock, a_coinHeight, a_coinSpent, a_transactionHeight, a_poolRow, a_marked, a_queue) := by
  have hm := w.2.2.1
  subst ep
  have key : ∀ (d i fuel : Nat), i + d = np → d < fuel → wX_bestUnmarked_4 post f_stackSize f_transactions f_putCount f_blocks f_tip (nI np) f_queueCount a_tokenCount a_tokenOp a_tokenValue a_scriptInUse a_stack a_inputCount a_inputCoin a_inputA a_inputB a_outputCount a_outputAmount a_outputScript a_feeOf a_putRow a_parentOf a_heightOf a_chainWork a_blockState a_rewardAmount a_rewardScript a_blockSize a_blockTransaction a_laidBlock a_coinHeight a_coinSpent a_transactionHeight a_poolRow a_marked a_queue fuel (bs_x (bs_f (el_p (a_tokenCount, a_tokenOp, a_tokenValue, a_inputCount, a_inputCoin, a_inputA, a_inputB, a_outputCount, a_outputAmount, a_outputScript, a_parentOf, a_heightOf, a_rewardScript, a_blockSize, a_blockTransaction, a_feeOf, a_rewardAmount) a_poolRow a_marked np) (fun k => a_feeOf (a_poolRow k).toNatClampNeg) i)) (nI i) := by
    intro d
    induction d with
    | zero =>
      intro i fuel hi hf
      obtain ⟨fuel, rfl⟩ : ∃ q, fuel = q + 1 := ⟨fuel - 1, by omega⟩
      obtain rfl : i = np := by omega
      exact br_t (nI_le (Nat.le_refl _) (by omega)) H
    | succ d ih =>
      intro i fuel hi hf
      obtain ⟨fuel, rfl⟩ : ∃ q, fuel = q + 1 := ⟨fuel - 1, by omega⟩
      obtain ⟨u, hu, eu⟩ := hp i (by omega)
      have euc := pd_cl eu (by omega)
      have nx := ih (i + 1) fuel (by omega) (by omega)
      refine pk_le np i (fun z => by omega) (fun z => ⟨pk_in i 12 (by omega), ?_⟩)
      rw [pk_cl i]
      refine br_c (fun q => xm_waits w hnp rfl hp (by omega) (fun z1 => br_f (by decide) (nm_r (nI_1 i) ?_)) (fun z1 => br_t rfl ?_)) (fun q => nm_r (nI_1 i) ?_)
      · rw [bs_n (fun e => e.2 z1)] at nx; exact nx
      · rw [bs_t ⟨q, z1⟩] at nx
        cases hb : bs_f (el_p (a_tokenCount, a_tokenOp, a_tokenValue, a_inputCount, a_inputCoin, a_inputA, a_inputB, a_outputCount, a_outputAmount, a_outputScript, a_parentOf, a_heightOf, a_rewardScript, a_blockSize, a_blockTransaction, a_feeOf, a_rewardAmount) a_poolRow a_marked np) (fun k => a_feeOf (a_poolRow k).toNatClampNeg) i with
        | none =>
          rw [hb] at nx
          exact br_t (by decide) (nm_r (nI_1 i) nx)
        | some b =>
          rw [hb] at nx
          have hbl := (bs_lt i b hb).1
          obtain ⟨u2, hu2, eu2⟩ := hp b (by omega)
          have euc2 := pd_cl eu2 (by omega)
          refine br_f (nI_pos (by omega)) ⟨pk_in i 12 (by omega), pk_in u 40 (by omega) eu, pk_in b 12 (by omega), ?_⟩
          have ebc : a_poolRow (bs_x (some b)).toNatClampNeg = a_poolRow b := congrArg a_poolRow (pk_cl b)
          refine ⟨pk_in u2 40 (by omega) (ebc.trans eu2), ?_⟩
          rw [ebc]
          dsimp only at nx
          refine br_c (fun z2 => nm_r (nI_1 i) ?_) (fun z2 => nm_r (nI_1 i) ?_)
          · rw [if_pos z2] at nx; exact nx
          · rw [if_neg z2] at nx; exact nx
      · rw [bs_n (fun e => q e.1)] at nx; exact nx
  exact ⟨np + 1, key np 0 (np + 1) (by omega) (by omega)⟩
end
section
variable {g_made g_blocks g_arrivals g_tip g_pooled g_chainLength : Int32} {b_op b_arg b_length b_ins b_inCoin b_inA b_inB b_outs b_amount b_lock b_parent b_work b_rewardLock b_height b_many b_holds b_delivered b_arrived b_pool b_chain b_from b_worth b_within b_spent b_stack b_again b_chosen gfe grw : Nat → Int32}
theorem yq_chosen {i : Nat} {x : Int32} (hi : i ≤ 4) {post : Int32 → Prop} (H1 : (∃ j, j < i ∧ b_chosen j = x) → post 1) (H0 : ¬ (∃ j, j < i ∧ b_chosen j = x) → post 0) : wpY_isChosen post (g_made, g_blocks, g_arrivals, g_tip, g_pooled, g_chainLength, b_op, b_arg, b_length, b_ins, b_inCoin, b_inA, b_inB, b_outs, b_amount, b_lock, b_parent, b_work, b_rewardLock, b_height, b_many, b_holds, b_delivered, b_arrived, b_pool, b_chain, b_from, b_worth, b_within, b_spent, b_stack, b_again, b_chosen) x (nI i) := by
  have key : ∀ (d j fuel : Nat), j + d = i → d < fuel → (∀ c, c < j → b_chosen c ≠ x) → wY_isChosen_2 post x (nI i) g_made g_blocks g_arrivals g_tip g_pooled g_chainLength b_op b_arg b_length b_ins b_inCoin b_inA b_inB b_outs b_amount b_lock b_parent b_work b_rewardLock b_height b_many b_holds b_delivered b_arrived b_pool b_chain b_from b_worth b_within b_spent b_stack b_again b_chosen fuel (nI j) := by
    intro d
    induction d with
    | zero =>
      intro j fuel hj hf hno
      obtain ⟨fuel, rfl⟩ : ∃ q, fuel = q + 1 := ⟨fuel - 1, by omega⟩
      obtain rfl : j = i := by omega
      exact br_t (nI_le (Nat.le_refl _) (by omega)) (H0 fun ⟨c, h1, h2⟩ => hno c h1 h2)
    | succ d ih =>
      intro j fuel hj hf hno
      obtain ⟨fuel, rfl⟩ : ∃ q, fuel = q + 1 := ⟨fuel - 1, by omega⟩
      refine pk_le i j (fun z => by omega) (fun z => ⟨pk_in j 4 (by omega), ?_⟩)
      rw [pk_cl j]
      refine br_c (fun q => H1 ⟨j, by omega, q⟩) (fun q => nm_r (nI_1 j) (ih (j + 1) fuel (by omega) (by omega) fun c hc => ?_))
      by_cases e : c = j
      · rw [e]; exact q
      · exact hno c (by omega)
  exact ⟨i + 1, key i 0 (i + 1) (by omega) (by omega) (fun c hc => by omega)⟩
theorem yq_free {made blocks np i t : Nat} {mk : Nat → Int32} (w : pd_wf (b_length, b_op, b_arg, b_ins, b_inCoin, b_inA, b_inB, b_outs, b_amount, b_lock, b_parent, b_height, b_rewardLock, b_many, b_holds, gfe, grw) made blocks) (hnp : np ≤ 12) (ep : g_pooled = nI np) (hp : pd_pl b_pool np made) (hi : i ≤ 4) (ht : t < made) (hsr : ∀ k, k < np → (mk k = 0 ↔ ¬ ∃ j, j < i ∧ b_chosen j = b_pool k)) {post : Int32 → Prop} (H0 : (∃ j, j < np ∧ mk j = 0 ∧ pd_needs (b_length, b_op, b_arg, b_ins, b_inCoin, b_inA, b_inB, b_outs, b_amount, b_lock, b_parent, b_height, b_rewardLock, b_many, b_holds, gfe, grw) t (b_pool j).toNatClampNeg) → post 0) (H1 : ¬ (∃ j, j < np ∧ mk j = 0 ∧ pd_needs (b_length, b_op, b_arg, b_ins, b_inCoin, b_inA, b_inB, b_outs, b_amount, b_lock, b_parent, b_height, b_rewardLock, b_many, b_holds, gfe, grw) t (b_pool j).toNatClampNeg) → post 1) : wpY_isFree post (g_made, g_blocks, g_arrivals, g_tip, g_pooled, g_chainLength, b_op, b_arg, b_length, b_ins, b_inCoin, b_inA, b_inB, b_outs, b_amount, b_lock, b_parent, b_work, b_rewardLock, b_height, b_many, b_holds, b_delivered, b_arrived, b_pool, b_chain, b_from, b_worth, b_within, b_spent, b_stack, b_again, b_chosen) (nI t) (nI i) := by
  have hm := w.2.2.1
  subst ep
  have key : ∀ (d c fuel : Nat), c + d = np → d < fuel → (∀ j, j < c → ¬ (mk j = 0 ∧ pd_needs (b_length, b_op, b_arg, b_ins, b_inCoin, b_inA, b_inB, b_outs, b_amount, b_lock, b_parent, b_height, b_rewardLock, b_many, b_holds, gfe, grw) t (b_pool j).toNatClampNeg)) → wY_isFree_2 post (nI t) (nI i) g_made g_blocks g_arrivals g_tip (nI np) g_chainLength b_op b_arg b_length b_ins b_inCoin b_inA b_inB b_outs b_amount b_lock b_parent b_work b_rewardLock b_height b_many b_holds b_delivered b_arrived b_pool b_chain b_from b_worth b_within b_spent b_stack b_again b_chosen fuel (nI c) := by
    intro d
    induction d with
    | zero =>
      intro c fuel hc hf hno
      obtain ⟨fuel, rfl⟩ : ∃ q, fuel = q + 1 := ⟨fuel - 1, by omega⟩
      obtain rfl : c = np := by omega
      exact br_t (nI_le (Nat.le_refl _) (by omega)) (H1 fun ⟨j, h1, h2⟩ => hno j h1 h2)
    | succ d ih =>
      intro c fuel hc hf hno
      obtain ⟨fuel, rfl⟩ : ∃ q, fuel = q + 1 := ⟨fuel - 1, by omega⟩
      obtain ⟨u, hu, eu⟩ := hp c (by omega)
      have euc := pd_cl eu (by omega)
      have nxt : ¬ (mk c = 0 ∧ pd_needs (b_length, b_op, b_arg, b_ins, b_inCoin, b_inA, b_inB, b_outs, b_amount, b_lock, b_parent, b_height, b_rewardLock, b_many, b_holds, gfe, grw) t u) → wY_isFree_2 post (nI t) (nI i) g_made g_blocks g_arrivals g_tip (nI np) g_chainLength b_op b_arg b_length b_ins b_inCoin b_inA b_inB b_outs b_amount b_lock b_parent b_work b_rewardLock b_height b_many b_holds b_delivered b_arrived b_pool b_chain b_from b_worth b_within b_spent b_stack b_again b_chosen fuel (nI (c + 1)) := fun q => ih (c + 1) fuel (by omega) (by omega) fun j hj => by
        by_cases e : j = c
        · subst e; rw [euc]; exact q
        · exact hno j (by omega)
      refine pk_le np c (fun z => by omega) (fun z => ⟨pk_in c 12 (by omega), ?_⟩)
      rw [pk_cl c]
      refine yq_chosen hi (fun q => br_f (by decide) (nm_r (nI_1 c) (nxt fun q' => (hsr c (by omega)).mp q'.1 q))) (fun q => br_t rfl ⟨pk_in c 12 (by omega), ?_⟩)
      rw [eu]
      exact yq_needs w ht (by omega) (fun z1 => br_f (by decide) (H0 ⟨c, by omega, (hsr c (by omega)).mpr q, by rw [euc]; exact z1⟩)) (fun z1 => br_t rfl (nm_r (nI_1 c) (nxt fun q' => z1 q'.2)))
  exact ⟨np + 1, key np 0 (np + 1) (by omega) (by omega) (fun j hj => by omega)⟩
theorem ym_best {made blocks np i : Nat} {mk : Nat → Int32} {x1 x2 : Int32} (w : pd_wf (b_length, b_op, b_arg, b_ins, b_inCoin, b_inA, b_inB, b_outs, b_amount, b_lock, b_parent, b_height, b_rewardLock, b_many, b_holds, gfe, grw) made blocks) (fq : pd_feq (b_length, b_op, b_arg, b_ins, b_inCoin, b_inA, b_inB, b_outs, b_amount, b_lock, b_parent, b_height, b_rewardLock, b_many, b_holds, gfe, grw) made) (hnp : np ≤ 12) (ep : g_pooled = nI np) (hp : pd_pl b_pool np made) (hi : i ≤ 4) (hsr : ∀ k, k < np → (mk k = 0 ↔ ¬ ∃ j, j < i ∧ b_chosen j = b_pool k))
    (hw : ∀ k, k < np → ∀ i, i < (pd_ic (b_length, b_op, b_arg, b_ins, b_inCoin, b_inA, b_inB, b_outs, b_amount, b_lock, b_parent, b_height, b_rewardLock, b_many, b_holds, gfe, grw) (b_pool k).toNatClampNeg).toNatClampNeg → 120 ≤ (b_inCoin (3 * (b_pool k).toNatClampNeg + i)).toNatClampNeg → b_worth (b_inCoin (3 * (b_pool k).toNatClampNeg + i)).toNatClampNeg = grw ((b_inCoin (3 * (b_pool k).toNatClampNeg + i)).toNatClampNeg - 120)) {post : Int32 → SY → Prop} {J : Int32 → Int32 → (Nat → Int32) → (Nat → Int32) → (Nat → Int32) → (Nat → Int32) → (Nat → Int32) → (Nat → Int32) → (Nat → Int32) → (Nat → Int32) → (Nat → Int32) → (Nat → Int32) → (Nat → Int32) → (Nat → Int32) → (Nat → Int32) → (Nat → Int32) → (Nat → Int32) → (Nat → Int32) → (Nat → Int32) → (Nat → Int32) → (Nat → Int32) → (Nat → Int32) → (Nat → Int32) → (Nat → Int32) → (Nat → Int32) → (Nat → Int32) → (Nat → Int32) → (Nat → Int32) → (Nat → Int32) → Prop}
    (HN : bs_f (el_p (b_length, b_op, b_arg, b_ins, b_inCoin, b_inA, b_inB, b_outs, b_amount, b_lock, b_parent, b_height, b_rewardLock, b_many, b_holds, gfe, grw) b_pool mk np) (fun k => gfe (b_pool k).toNatClampNeg) np = none → wY_forge_167 post x1 x2 (nI i) g_made g_blocks g_arrivals g_tip g_pooled g_chainLength b_op b_arg b_length b_ins b_inCoin b_inA b_inB b_outs b_amount b_lock b_parent b_work b_rewardLock b_height b_many b_holds b_delivered b_arrived b_pool b_chain b_from b_worth b_within b_spent b_stack b_again b_chosen)
    (HS : ∀ b, bs_f (el_p (b_length, b_op, b_arg, b_ins, b_inCoin, b_inA, b_inB, b_outs, b_amount, b_lock, b_parent, b_height, b_rewardLock, b_many, b_holds, gfe, grw) b_pool mk np) (fun k => gfe (b_pool k).toNatClampNeg) np = some b → i < 4 → J (nI (i + 1)) (nI (i + 1)) b_op b_arg b_length b_ins b_inCoin b_inA b_inB b_outs b_amount b_lock b_parent b_work b_rewardLock b_height b_many b_holds b_delivered b_arrived b_pool b_chain b_from b_worth b_within b_spent b_stack b_again (upd b_chosen i (b_pool b))) (h4 : i < 4) :
    ∃ fuel, wY_forge_60 post J x1 x2 (nI i) (nI i) g_made g_blocks g_arrivals g_tip g_pooled g_chainLength b_op b_arg b_length b_ins b_inCoin b_inA b_inB b_outs b_amount b_lock b_parent b_work b_rewardLock b_height b_many b_holds b_delivered b_arrived b_pool b_chain b_from b_worth b_within b_spent b_stack b_again b_chosen fuel (-1) 0 := by
  have hm := w.2.2.1
  subst ep
  have key : ∀ (d c fuel : Nat), c + d = np → d < fuel → wY_forge_60 post J x1 x2 (nI i) (nI i) g_made g_blocks g_arrivals g_tip (nI np) g_chainLength b_op b_arg b_length b_ins b_inCoin b_inA b_inB b_outs b_amount b_lock b_parent b_work b_rewardLock b_height b_many b_holds b_delivered b_arrived b_pool b_chain b_from b_worth b_within b_spent b_stack b_again b_chosen fuel (bs_y b_pool (bs_f (el_p (b_length, b_op, b_arg, b_ins, b_inCoin, b_inA, b_inB, b_outs, b_amount, b_lock, b_parent, b_height, b_rewardLock, b_many, b_holds, gfe, grw) b_pool mk np) (fun k => gfe (b_pool k).toNatClampNeg) c)) (nI c) := by
    intro d
    induction d with
    | zero =>
      intro c fuel hc hf
      obtain ⟨fuel, rfl⟩ : ∃ q, fuel = q + 1 := ⟨fuel - 1, by omega⟩
      obtain rfl : c = np := by omega
      refine br_t (nI_le (Nat.le_refl _) (by omega)) ?_
      cases hb : bs_f (el_p (b_length, b_op, b_arg, b_ins, b_inCoin, b_inA, b_inB, b_outs, b_amount, b_lock, b_parent, b_height, b_rewardLock, b_many, b_holds, gfe, grw) b_pool mk c) (fun k => gfe (b_pool k).toNatClampNeg) c with
      | none => exact br_f (pd_m1 : ¬ (0 : Int32) ≤ -1) (HN hb)
      | some b =>
        obtain ⟨u, hu, eu⟩ := hp b (bs_lt c b hb).1
        have hpos : 0 ≤ bs_y b_pool (some b) := by show 0 ≤ b_pool b; rw [eu]; exact nI_pos' (by omega)
        exact br_t hpos ⟨pk_in i 4 h4, nm_r (by rw [pk_cl i] <;> rfl) (nm_r (nI_1 i) (nm_r (nI_1 i) (HS b hb h4)))⟩
    | succ d ih =>
      intro c fuel hc hf
      obtain ⟨fuel, rfl⟩ : ∃ q, fuel = q + 1 := ⟨fuel - 1, by omega⟩
      obtain ⟨u, hu, eu⟩ := hp c (by omega)
      have euc := pd_cl eu (by omega)
      have nx := ih (c + 1) fuel (by omega) (by omega)
      have hwc := hw c (by omega)
      rw [euc] at hwc
      refine pk_le np c (fun z => by omega) (fun z => ⟨pk_in c 12 (by omega), ?_⟩)
      rw [pk_cl c]
      refine yq_chosen hi (fun q => br_f (by decide) (nm_r (nI_1 c) ?_)) (fun q => br_t rfl ⟨pk_in c 12 (by omega), ?_⟩)
      · rw [bs_n (fun e => (hsr c (by omega)).mp e.1 q)] at nx; exact nx
      · have q0 : mk c = 0 := (hsr c (by omega)).mpr q
        rw [eu]
        refine yq_free w hnp rfl hp hi hu hsr (fun z1 => br_t rfl (nm_r (nI_1 c) ?_)) (fun z1 => br_f (by decide) ?_)
        · rw [bs_n (fun e => e.2 (by rw [euc]; exact z1))] at nx; exact nx
        · rw [bs_t ⟨q0, by rw [euc]; exact z1⟩] at nx
          cases hb : bs_f (el_p (b_length, b_op, b_arg, b_ins, b_inCoin, b_inA, b_inB, b_outs, b_amount, b_lock, b_parent, b_height, b_rewardLock, b_many, b_holds, gfe, grw) b_pool mk np) (fun k => gfe (b_pool k).toNatClampNeg) c with
          | none =>
            rw [hb] at nx
            refine br_t (by decide : (-1 : Int32) < 0) ⟨pk_in c 12 (by omega), nm_e (nm_r (nI_1 c) ?_)⟩
            rw [← eu]; exact nx
          | some b =>
            rw [hb] at nx
            have hbl := (bs_lt c b hb).1
            obtain ⟨u2, hu2, eu2⟩ := hp b (by omega)
            have euc2 := pd_cl eu2 (by omega)
            have hwb := hw b (by omega)
            rw [euc2] at hwb
            dsimp only at nx
            rw [euc, euc2] at nx
            have ebb : bs_y b_pool (some b) = nI u2 := eu2
            rw [ebb]
            refine br_f (nI_pos (by omega)) ⟨pk_in c 12 (by omega), yq_fee w fq hu hwc (yq_fee w fq hu2 hwb (br_c (fun z2 => nm_r (nI_1 c) ?_) (fun z2 => ⟨pk_in c 12 (by omega), nm_e (nm_r (nI_1 c) ?_)⟩)))⟩
            · rw [if_pos z2] at nx
              rw [← ebb]; exact nx
            · rw [if_neg z2] at nx
              rw [← eu]; exact nx
  exact ⟨np + 1, key np 0 (np + 1) (by omega) (by omega)⟩
end
end
section
/-! forge's four rounds, side by side -/
theorem bs_eq {el el' : Nat → Prop} {fe fe' : Nat → Int32} : ∀ n, (∀ k, k < n → (el k ↔ el' k) ∧ fe k = fe' k) → bs_f el fe n = bs_f el' fe' n := by
  intro n
  induction n with
  | zero => intro _; rfl
  | succ n ih =>
    intro h
    have e := ih fun k hk => h k (by omega)
    obtain ⟨h1, h2⟩ := h n (by omega)
    rcases Classical.em (el n) with q | q
    · rw [bs_t q, bs_t (h1.mp q), e]
      cases hb : bs_f el' fe' n with
      | none => rfl
      | some b =>
        have := (h b (by have := (bs_lt n b hb).1; omega)).2
        dsimp only
        rw [h2, this]
    · rw [bs_n q, bs_n (fun z => q (h1.mpr z)), e]
def hc_set (f q : pd_F) (base : Nat) : Nat → pd_F
  | 0 => f
  | k + 1 => upd (hc_set f q base k) (base + k) (q k)
theorem hc_in {f q : pd_F} {base j : Nat} : ∀ n, j < n → hc_set f q base n (base + j) = q j := by
  intro n
  induction n with
  | zero => intro h; omega
  | succ n ih =>
    intro h
    by_cases e : j = n
    · subst e; rw [hc_set, pk_us]
    · rw [hc_set, pk_un (by omega)]; exact ih (by omega)
theorem hc_no {f q : pd_F} {base j : Nat} : ∀ n, ¬ (base ≤ j ∧ j < base + n) → hc_set f q base n j = f j := by
  intro n
  induction n with
  | zero => intro _; rfl
  | succ n ih => intro h; rw [hc_set, pk_un (by omega)]; exact ih (by omega)
theorem hc_eq {f q q' : pd_F} {base : Nat} : ∀ n, (∀ j, j < n → q' j = q j) → hc_set f q' base n = hc_set f q base n := by
  intro n
  induction n with
  | zero => intro _; rfl
  | succ n ih => intro h; rw [hc_set, hc_set, h n (by omega), ih fun j hj => h j (by omega)]
theorem el_ag {D E : pd_D} {made blocks np k : Nat} {pl mk : pd_F} (hm : made ≤ 40) (a : pd_ag D E made blocks) (hp : pd_pl pl np made) (hk : k < np) : el_p E pl mk np k ↔ el_p D pl mk np k := by
  obtain ⟨u, hu, eu⟩ := hp k hk
  unfold el_p
  rw [pd_cl eu (by omega)]
  refine and_congr_right fun _ => not_congr (exists_congr fun j => and_congr_right fun _ => and_congr_right fun _ => pd_ag_needs a hu)
theorem nb_I_q {bs0 bt0 rw0 fe q q' bs bt rw : pd_F} {x i : Nat} {x0 : Int32} (hq : ∀ j, j < i → q' j = q j) (h : nb_I bs0 bt0 rw0 fe q x x0 i bs bt rw) : nb_I bs0 bt0 rw0 fe q' x x0 i bs bt rw := by
  obtain ⟨h1, h2, h3, h4, h5, h6⟩ := h
  exact ⟨h1, h2, h3, fun j hj => (h4 j hj).trans (hq j hj).symm, h5, h6⟩
section
variable {f_stackSize f_transactions f_putCount f_blocks f_tip f_poolCount f_queueCount : Int32} {a_tokenCount a_tokenOp a_tokenValue a_scriptInUse a_stack a_inputCount a_inputCoin a_inputA a_inputB a_outputCount a_outputAmount a_outputScript a_feeOf a_putRow a_parentOf a_heightOf a_chainWork a_blockState a_rewardAmount a_rewardScript a_blockSize a_blockTransaction a_laidBlock a_coinHeight a_coinSpent a_transactionHeight a_poolRow a_marked a_queue : Nat → Int32}
theorem ag_part {made blocks i : Nat} {q bs bt rw : Nat → Int32} {x0 : Int32} (w : pd_wf (a_tokenCount, a_tokenOp, a_tokenValue, a_inputCount, a_inputCoin, a_inputA, a_inputB, a_outputCount, a_outputAmount, a_outputScript, a_parentOf, a_heightOf, a_rewardScript, a_blockSize, a_blockTransaction, a_feeOf, a_rewardAmount) made blocks) (h : nb_I a_blockSize a_blockTransaction a_rewardAmount a_feeOf q blocks x0 i bs bt rw) : pd_ag (a_tokenCount, a_tokenOp, a_tokenValue, a_inputCount, a_inputCoin, a_inputA, a_inputB, a_outputCount, a_outputAmount, a_outputScript, a_parentOf, a_heightOf, a_rewardScript, a_blockSize, a_blockTransaction, a_feeOf, a_rewardAmount) (a_tokenCount, a_tokenOp, a_tokenValue, a_inputCount, a_inputCoin, a_inputA, a_inputB, a_outputCount, a_outputAmount, a_outputScript, a_parentOf, a_heightOf, a_rewardScript, bs, bt, a_feeOf, rw) made blocks := by
  obtain ⟨_, h2, h3, _, h5, _⟩ := h
  refine ⟨fun t _ => ⟨rfl, rfl, rfl, fun _ _ => ⟨rfl, rfl, rfl⟩, fun _ _ => ⟨rfl, rfl⟩⟩, fun b hb => ⟨rfl, rfl, h2 b (by omega), h5 b (by omega), fun _ => rfl, fun j hj => h3 _ ?_⟩, fun s _ => ⟨rfl, fun _ _ => ⟨rfl, rfl⟩⟩⟩
  obtain ⟨_, _, ⟨n, hn, en, _⟩, _⟩ := w.2.2.2.2.2 b hb
  rw [pd_cl en (by omega)] at hj
  omega
end
section
variable {f_stackSize f_transactions f_putCount f_blocks f_tip f_poolCount f_queueCount : Int32} {a_tokenCount a_tokenOp a_tokenValue a_scriptInUse a_stack a_inputCount a_inputCoin a_inputA a_inputB a_outputCount a_outputAmount a_outputScript a_feeOf a_putRow a_parentOf a_heightOf a_chainWork a_blockState a_rewardAmount a_rewardScript a_blockSize a_blockTransaction a_laidBlock a_coinHeight a_coinSpent a_transactionHeight a_poolRow a_marked a_queue : Nat → Int32}
variable {g_made g_blocks g_arrivals g_tip g_pooled g_chainLength : Int32} {b_op b_arg b_length b_ins b_inCoin b_inA b_inB b_outs b_amount b_lock b_parent b_work b_rewardLock b_height b_many b_holds b_delivered b_arrived b_pool b_chain b_from b_worth b_within b_spent b_stack b_again b_chosen gfe grw : Nat → Int32}
theorem fr_both {made blocks np : Nat} {pl : Nat → Int32} {x0 : Int32} {W : (Nat → Int32) → Prop} (w : pd_wf (a_tokenCount, a_tokenOp, a_tokenValue, a_inputCount, a_inputCoin, a_inputA, a_inputB, a_outputCount, a_outputAmount, a_outputScript, a_parentOf, a_heightOf, a_rewardScript, a_blockSize, a_blockTransaction, a_feeOf, a_rewardAmount) made blocks) (wE : pd_wf (b_length, b_op, b_arg, b_ins, b_inCoin, b_inA, b_inB, b_outs, b_amount, b_lock, b_parent, b_height, b_rewardLock, b_many, b_holds, gfe, grw) made blocks) (ag : pd_ag (a_tokenCount, a_tokenOp, a_tokenValue, a_inputCount, a_inputCoin, a_inputA, a_inputB, a_outputCount, a_outputAmount, a_outputScript, a_parentOf, a_heightOf, a_rewardScript, a_blockSize, a_blockTransaction, a_feeOf, a_rewardAmount) (b_length, b_op, b_arg, b_ins, b_inCoin, b_inA, b_inB, b_outs, b_amount, b_lock, b_parent, b_height, b_rewardLock, b_many, b_holds, gfe, grw) made blocks) (fq : pd_feq (b_length, b_op, b_arg, b_ins, b_inCoin, b_inA, b_inB, b_outs, b_amount, b_lock, b_parent, b_height, b_rewardLock, b_many, b_holds, gfe, grw) made) (h32 : blocks < 32) (hnp : np ≤ 12) (hp : pd_pl pl np made) (inj : ∀ k j, k < np → j < np → pl k = pl j → k = j)
    (hW : ∀ wo, W wo → ∀ k, k < np → ∀ i, i < (pd_ic (b_length, b_op, b_arg, b_ins, b_inCoin, b_inA, b_inB, b_outs, b_amount, b_lock, b_parent, b_height, b_rewardLock, b_many, b_holds, gfe, grw) (pl k).toNatClampNeg).toNatClampNeg → 120 ≤ (b_inCoin (3 * (pl k).toNatClampNeg + i)).toNatClampNeg → wo (b_inCoin (3 * (pl k).toNatClampNeg + i)).toNatClampNeg = grw ((b_inCoin (3 * (pl k).toNatClampNeg + i)).toNatClampNeg - 120)) :
    ∀ (d i : Nat), i + d = 4 → ∀ (mk q : Nat → Int32), (∀ k, k < np → (mk k = 0 ↔ ¬ ∃ j, j < i ∧ q j = pl k)) → (∀ j, j < i → ∃ t, t < made ∧ q j = nI t) →
    ∃ (m : Nat) (q' : Nat → Int32), m ≤ 4 ∧ i ≤ m ∧ (∀ j, j < m → ∃ t, t < made ∧ q' j = nI t) ∧ (∀ j, j < i → q' j = q j)
      ∧ (∀ (post : Int32 → SX → Prop) (bs bt rw : Nat → Int32), nb_I a_blockSize a_blockTransaction a_rewardAmount a_feeOf q blocks x0 i bs bt rw → (∀ mk' bs' bt' rw', nb_I a_blockSize a_blockTransaction a_rewardAmount a_feeOf q' blocks x0 m bs' bt' rw' → wX_forge_135 post (nI blocks) f_stackSize f_transactions f_putCount f_blocks f_tip (nI np) f_queueCount a_tokenCount a_tokenOp a_tokenValue a_scriptInUse a_stack a_inputCount a_inputCoin a_inputA a_inputB a_outputCount a_outputAmount a_outputScript a_feeOf a_putRow a_parentOf a_heightOf a_chainWork a_blockState rw' a_rewardScript bs' bt' a_laidBlock a_coinHeight a_coinSpent a_transactionHeight pl mk' a_queue) → ∀ fuel, d < fuel → wX_forge_89 post (nI blocks) fuel (nI i) f_stackSize f_transactions f_putCount f_blocks f_tip (nI np) f_queueCount a_tokenCount a_tokenOp a_tokenValue a_scriptInUse a_stack a_inputCount a_inputCoin a_inputA a_inputB a_outputCount a_outputAmount a_outputScript a_feeOf a_putRow a_parentOf a_heightOf a_chainWork a_blockState rw a_rewardScript bs bt a_laidBlock a_coinHeight a_coinSpent a_transactionHeight pl mk a_queue)
      ∧ (∀ (post : Int32 → SY → Prop) (x1 x2 cl : Int32) (wo st ch : Nat → Int32), W wo → wY_forge_167 post x1 x2 (nI m) g_made g_blocks g_arrivals g_tip (nI np) cl b_op b_arg b_length b_ins b_inCoin b_inA b_inB b_outs b_amount b_lock b_parent b_work b_rewardLock b_height b_many b_holds b_delivered b_arrived pl ch b_from wo b_within b_spent st b_again (hc_set b_chosen q' 0 m) → ∀ fuel, d < fuel → wY_forge_48 post x1 x2 g_made g_blocks g_arrivals g_tip (nI np) cl fuel (nI i) (nI i) b_op b_arg b_length b_ins b_inCoin b_inA b_inB b_outs b_amount b_lock b_parent b_work b_rewardLock b_height b_many b_holds b_delivered b_arrived pl ch b_from wo b_within b_spent st b_again (hc_set b_chosen q 0 i)) := by
  have hm := w.2.2.1
  intro d
  induction d with
  | zero =>
    intro i hi mk q hsr hq
    obtain rfl : i = 4 := by omega
    refine ⟨4, q, by omega, by omega, hq, fun _ _ => rfl, fun post bs bt rw hI H fuel hf => ?_, fun post x1 x2 cl wo st ch hw H fuel hf => ?_⟩
    · obtain ⟨fuel, rfl⟩ : ∃ q, fuel = q + 1 := ⟨fuel - 1, by omega⟩
      exact br_t (by decide) (H _ _ _ _ hI)
    · obtain ⟨fuel, rfl⟩ : ∃ q, fuel = q + 1 := ⟨fuel - 1, by omega⟩
      exact br_t (by decide) H
  | succ d ih =>
    intro i hi mk q hsr hq
    have eE : bs_f (el_p (b_length, b_op, b_arg, b_ins, b_inCoin, b_inA, b_inB, b_outs, b_amount, b_lock, b_parent, b_height, b_rewardLock, b_many, b_holds, gfe, grw) pl mk np) (fun k => gfe (pl k).toNatClampNeg) np = bs_f (el_p (a_tokenCount, a_tokenOp, a_tokenValue, a_inputCount, a_inputCoin, a_inputA, a_inputB, a_outputCount, a_outputAmount, a_outputScript, a_parentOf, a_heightOf, a_rewardScript, a_blockSize, a_blockTransaction, a_feeOf, a_rewardAmount) pl mk np) (fun k => a_feeOf (pl k).toNatClampNeg) np := bs_eq np fun k hk => by
      refine ⟨el_ag hm ag hp hk, ?_⟩
      obtain ⟨u, hu, eu⟩ := hp k hk
      rw [pd_cl eu (by omega)]
      exact (ag.1 u hu).2.2.1
    have eX : ∀ (bs bt rw : Nat → Int32), nb_I a_blockSize a_blockTransaction a_rewardAmount a_feeOf q blocks x0 i bs bt rw → bs_f (el_p (a_tokenCount, a_tokenOp, a_tokenValue, a_inputCount, a_inputCoin, a_inputA, a_inputB, a_outputCount, a_outputAmount, a_outputScript, a_parentOf, a_heightOf, a_rewardScript, bs, bt, a_feeOf, rw) pl mk np) (fun k => a_feeOf (pl k).toNatClampNeg) np = bs_f (el_p (a_tokenCount, a_tokenOp, a_tokenValue, a_inputCount, a_inputCoin, a_inputA, a_inputB, a_outputCount, a_outputAmount, a_outputScript, a_parentOf, a_heightOf, a_rewardScript, a_blockSize, a_blockTransaction, a_feeOf, a_rewardAmount) pl mk np) (fun k => a_feeOf (pl k).toNatClampNeg) np := fun bs bt rw hI => bs_eq np fun k hk => ⟨el_ag hm (ag_part w hI) hp hk, rfl⟩
    have i4 : ¬ (4 : Int32) ≤ nI i := nI_ge (b := 4) (by omega) (by omega)
    cases hb : bs_f (el_p (a_tokenCount, a_tokenOp, a_tokenValue, a_inputCount, a_inputCoin, a_inputA, a_inputB, a_outputCount, a_outputAmount, a_outputScript, a_parentOf, a_heightOf, a_rewardScript, a_blockSize, a_blockTransaction, a_feeOf, a_rewardAmount) pl mk np) (fun k => a_feeOf (pl k).toNatClampNeg) np with
    | none =>
      refine ⟨i, q, by omega, Nat.le_refl _, hq, fun _ _ => rfl, fun post bs bt rw hI H fuel hf => ?_, fun post x1 x2 cl wo st ch hw H fuel hf => ?_⟩
      · obtain ⟨fuel, rfl⟩ : ∃ q, fuel = q + 1 := ⟨fuel - 1, by omega⟩
        refine br_f i4 (xm_best (pd_wf_ag w (ag_part w hI)) hnp rfl hp ?_)
        rw [eX bs bt rw hI, hb]
        exact br_f (pd_m1 : ¬ (0 : Int32) ≤ -1) (H _ _ _ _ hI)
      · obtain ⟨fuel, rfl⟩ : ∃ q, fuel = q + 1 := ⟨fuel - 1, by omega⟩
        refine br_f i4 (ym_best (mk := mk) wE fq hnp rfl hp (by omega) (fun k hk => ?_) (hW wo hw) (fun _ => H) (fun b hb' => ?_) (by omega))
        · rw [hsr k hk]
          refine not_congr (exists_congr fun j => and_congr_right fun hj => ?_)
          have := hc_in (f := b_chosen) (q := q) (base := 0) i hj
          rw [Nat.zero_add] at this
          rw [this]
        · rw [eE, hb] at hb'
          exact nomatch hb'
    | some b =>
      obtain ⟨hbl, hel⟩ := bs_lt np b hb
      obtain ⟨t, ht, et⟩ := hp b hbl
      have hsr1 : ∀ k, k < np → (upd mk b 1 k = 0 ↔ ¬ ∃ j, j < i + 1 ∧ upd q i (pl b) j = pl k) := by
        intro k hk
        by_cases e : k = b
        · subst e
          rw [pk_us]
          exact ⟨fun z => absurd z (by decide), fun z => (z ⟨i, by omega, pk_us⟩).elim⟩
        · rw [pk_un e, hsr k hk]
          refine not_congr ⟨fun ⟨j, j1, j2⟩ => ⟨j, by omega, by rw [pk_un (by omega)]; exact j2⟩, fun ⟨j, j1, j2⟩ => ?_⟩
          by_cases ej : j = i
          · subst ej
            rw [pk_us] at j2
            exact (e (inj k b hk hbl j2.symm)).elim
          · rw [pk_un ej] at j2
            exact ⟨j, by omega, j2⟩
      have hq1 : ∀ j, j < i + 1 → ∃ t, t < made ∧ upd q i (pl b) j = nI t := by
        intro j hj
        by_cases ej : j = i
        · subst ej; exact ⟨t, ht, by rw [pk_us]; exact et⟩
        · rw [pk_un ej]; exact hq j (by omega)
      obtain ⟨m, q', m4, im, hq', hqq, hX, hY⟩ := ih (i + 1) (by omega) (upd mk b 1) (upd q i (pl b)) hsr1 hq1
      refine ⟨m, q', m4, by omega, hq', fun j hj => by rw [hqq j (by omega), pk_un (by omega)], fun post bs bt rw hI H fuel hf => ?_, fun post x1 x2 cl wo st ch hw H fuel hf => ?_⟩
      · obtain ⟨fuel, rfl⟩ : ∃ q, fuel = q + 1 := ⟨fuel - 1, by omega⟩
        refine br_f i4 (xm_best (pd_wf_ag w (ag_part w hI)) hnp rfl hp ?_)
        rw [eX bs bt rw hI, hb]
        have ebc : (bs_x (some b)).toNatClampNeg = b := pk_cl b
        refine br_t (nI_pos' (by omega) : (0 : Int32) ≤ nI b) ⟨pk_in b 12 (by omega), nm_r (by rw [ebc, xb_1]) ⟨pk_in b 12 (by omega), ?_⟩⟩
        rw [ebc, et]
        have hI1 : nb_I a_blockSize a_blockTransaction a_rewardAmount a_feeOf (upd q i (pl b)) blocks x0 i bs bt rw := nb_I_q (fun j hj => pk_un (by omega)) hI
        refine xm_addTo h32 (by omega) (by omega) hI.1 (nm_r (nI_1 i) ?_)
        exact hX post _ _ _ (nb_I_s (by omega) (by rw [pk_us]; exact et) hI1) H fuel (by omega)
      · obtain ⟨fuel, rfl⟩ : ∃ q, fuel = q + 1 := ⟨fuel - 1, by omega⟩
        refine br_f i4 (ym_best (mk := mk) wE fq hnp rfl hp (by omega) (fun k hk => ?_) (hW wo hw) (fun hb' => ?_) (fun b' hb' _ => ?_) (by omega))
        · rw [hsr k hk]
          refine not_congr (exists_congr fun j => and_congr_right fun hj => ?_)
          have := hc_in (f := b_chosen) (q := q) (base := 0) i hj
          rw [Nat.zero_add] at this
          rw [this]
        · rw [eE, hb] at hb'
          exact nomatch hb'
        · rw [eE, hb] at hb'
          obtain rfl : b = b' := Option.some.inj hb'
          have := hY post x1 x2 cl wo st ch hw H fuel (by omega)
          rw [hc_set, pk_us, Nat.zero_add, hc_eq (q' := upd q i (pl b)) (q := q) i (fun j hj => pk_un (by omega))] at this
          exact this
end
end
section
/-! forge -/
theorem cn_fdl {D : pd_D} {st dl av cw wk : pd_F} {x ar tp : Nat} (h32 : x + 1 ≤ 32) (B : cn_blk D st dl av cw wk (x + 1) ar tp 99) (ht : tp ≠ x) : cn_blk D st (upd dl x 1) av cw wk (x + 1) ar tp x := by
  obtain ⟨B1, B2, B3, B4, B5, ⟨T1, T2, T3, T4⟩, B7, B8⟩ := B
  refine ⟨fun b hb hx => ?_, B2, B3, fun b h1 h2 => ?_, B5, ⟨T1, ht, T3, T4⟩, B7, B8⟩
  · unfold cn_one
    rw [pk_un hx]
    exact B1 b hb (by omega)
  · rw [pk_un (by omega)]; exact B4 b h1 h2
section
variable {f_stackSize f_transactions f_putCount f_blocks f_tip f_poolCount f_queueCount : Int32} {a_tokenCount a_tokenOp a_tokenValue a_scriptInUse a_stack a_inputCount a_inputCoin a_inputA a_inputB a_outputCount a_outputAmount a_outputScript a_feeOf a_putRow a_parentOf a_heightOf a_chainWork a_blockState a_rewardAmount a_rewardScript a_blockSize a_blockTransaction a_laidBlock a_coinHeight a_coinSpent a_transactionHeight a_poolRow a_marked a_queue : Nat → Int32}
theorem ag_hd {made blocks : Nat} {pa' he' rs' : Nat → Int32} (h1 : ∀ b, b < blocks → pa' b = a_parentOf b) (h2 : ∀ b, b < blocks → he' b = a_heightOf b) (h3 : ∀ b, b < blocks → rs' b = a_rewardScript b) : pd_ag (a_tokenCount, a_tokenOp, a_tokenValue, a_inputCount, a_inputCoin, a_inputA, a_inputB, a_outputCount, a_outputAmount, a_outputScript, a_parentOf, a_heightOf, a_rewardScript, a_blockSize, a_blockTransaction, a_feeOf, a_rewardAmount) (a_tokenCount, a_tokenOp, a_tokenValue, a_inputCount, a_inputCoin, a_inputA, a_inputB, a_outputCount, a_outputAmount, a_outputScript, pa', he', rs', a_blockSize, a_blockTransaction, a_feeOf, a_rewardAmount) made blocks :=
  ⟨fun t _ => ⟨rfl, rfl, rfl, fun _ _ => ⟨rfl, rfl, rfl⟩, fun _ _ => ⟨rfl, rfl⟩⟩, fun b hb => ⟨h2 b hb, h3 b hb, rfl, rfl, fun _ => h1 b hb, fun _ _ => rfl⟩, fun s _ => ⟨rfl, fun _ _ => ⟨rfl, rfl⟩⟩⟩
theorem xm_forge65 {x3 : Int32} {post : Int32 → SX → Prop} (H : ∃ fuel, wX_forge_89 post x3 fuel 0 f_stackSize f_transactions f_putCount f_blocks f_tip f_poolCount f_queueCount a_tokenCount a_tokenOp a_tokenValue a_scriptInUse a_stack a_inputCount a_inputCoin a_inputA a_inputB a_outputCount a_outputAmount a_outputScript a_feeOf a_putRow a_parentOf a_heightOf a_chainWork a_blockState a_rewardAmount a_rewardScript a_blockSize a_blockTransaction a_laidBlock a_coinHeight a_coinSpent a_transactionHeight a_poolRow (pd_reset a_marked 12 0) a_queue) : ∃ fuel, wX_forge_65 post x3 f_stackSize f_transactions f_putCount f_blocks f_tip f_poolCount f_queueCount fuel 0 a_tokenCount a_tokenOp a_tokenValue a_scriptInUse a_stack a_inputCount a_inputCoin a_inputA a_inputB a_outputCount a_outputAmount a_outputScript a_feeOf a_putRow a_parentOf a_heightOf a_chainWork a_blockState a_rewardAmount a_rewardScript a_blockSize a_blockTransaction a_laidBlock a_coinHeight a_coinSpent a_transactionHeight a_poolRow a_marked a_queue := by
  have key : ∀ (d i fuel : Nat), i + d = 12 → d < fuel → wX_forge_65 post x3 f_stackSize f_transactions f_putCount f_blocks f_tip f_poolCount f_queueCount fuel (nI i) a_tokenCount a_tokenOp a_tokenValue a_scriptInUse a_stack a_inputCount a_inputCoin a_inputA a_inputB a_outputCount a_outputAmount a_outputScript a_feeOf a_putRow a_parentOf a_heightOf a_chainWork a_blockState a_rewardAmount a_rewardScript a_blockSize a_blockTransaction a_laidBlock a_coinHeight a_coinSpent a_transactionHeight a_poolRow (pd_reset a_marked i 0) a_queue := by
    intro d
    induction d with
    | zero =>
      intro i fuel hd hf
      obtain ⟨fuel, rfl⟩ : ∃ q, fuel = q + 1 := ⟨fuel - 1, by omega⟩
      obtain rfl : i = 12 := by omega
      exact br_t (by decide) H
    | succ d ih =>
      intro i fuel hd hf
      obtain ⟨fuel, rfl⟩ : ∃ q, fuel = q + 1 := ⟨fuel - 1, by omega⟩
      exact pk_le 12 i (fun z => by omega) (fun z => ⟨pk_in i 12 (by omega), nm_r (by rw [pk_cl i, xb_0, ← pd_reset_s]) (nm_r (nI_1 i) (ih (i + 1) fuel (by omega) (by omega)))⟩)
  have := key 12 0 13 (by omega) (by omega)
  rw [pd_reset_0] at this
  exact ⟨13, this⟩
end
section
variable {g_made g_blocks g_arrivals g_tip g_pooled g_chainLength : Int32} {b_op b_arg b_length b_ins b_inCoin b_inA b_inB b_outs b_amount b_lock b_parent b_work b_rewardLock b_height b_many b_holds b_delivered b_arrived b_pool b_chain b_from b_worth b_within b_spent b_stack b_again b_chosen gfe grw : Nat → Int32}
theorem ym_forge182 {x m : Nat} {q : Nat → Int32} (hx : x < 32) (hm : m ≤ 4) (hc : ∀ j, j < m → b_chosen j = q j) {post : Int32 → SY → Prop} (H : wpY_arrive (fun _ u => match u with | (g_madeq, g_blocksq, g_arrivalsq, g_tipq, g_pooledq, g_chainLengthq, b_opq, b_argq, b_lengthq, b_insq, b_inCoinq, b_inAq, b_inBq, b_outsq, b_amountq, b_lockq, b_parentq, b_workq, b_rewardLockq, b_heightq, b_manyq, b_holdsq, b_deliveredq, b_arrivedq, b_poolq, b_chainq, b_fromq, b_worthq, b_withinq, b_spentq, b_stackq, b_againq, b_chosenq) => post (nI x) (g_madeq, g_blocksq, g_arrivalsq, g_tipq, g_pooledq, g_chainLengthq, b_opq, b_argq, b_lengthq, b_insq, b_inCoinq, b_inAq, b_inBq, b_outsq, b_amountq, b_lockq, b_parentq, b_workq, b_rewardLockq, b_heightq, b_manyq, b_holdsq, b_deliveredq, b_arrivedq, b_poolq, b_chainq, b_fromq, b_worthq, b_withinq, b_spentq, b_stackq, b_againq, b_chosenq)) (g_made, g_blocks, g_arrivals, g_tip, g_pooled, g_chainLength, b_op, b_arg, b_length, b_ins, b_inCoin, b_inA, b_inB, b_outs, b_amount, b_lock, b_parent, b_work, b_rewardLock, b_height, upd b_many x (nI m), hc_set b_holds q (4 * x) m, upd b_delivered x 1, b_arrived, b_pool, b_chain, b_from, b_worth, b_within, b_spent, b_stack, b_again, b_chosen)) : ∃ fuel, wY_forge_182 post (nI m) (nI x) g_made g_blocks g_arrivals g_tip g_pooled g_chainLength fuel 0 b_op b_arg b_length b_ins b_inCoin b_inA b_inB b_outs b_amount b_lock b_parent b_work b_rewardLock b_height b_many b_holds b_delivered b_arrived b_pool b_chain b_from b_worth b_within b_spent b_stack b_again b_chosen := by
  have key : ∀ (d i fuel : Nat), i + d = m → d < fuel → wY_forge_182 post (nI m) (nI x) g_made g_blocks g_arrivals g_tip g_pooled g_chainLength fuel (nI i) b_op b_arg b_length b_ins b_inCoin b_inA b_inB b_outs b_amount b_lock b_parent b_work b_rewardLock b_height b_many (hc_set b_holds q (4 * x) i) b_delivered b_arrived b_pool b_chain b_from b_worth b_within b_spent b_stack b_again b_chosen := by
    intro d
    induction d with
    | zero =>
      intro i fuel hi hf
      obtain ⟨fuel, rfl⟩ : ∃ q, fuel = q + 1 := ⟨fuel - 1, by omega⟩
      obtain rfl : i = m := by omega
      exact br_t (nI_le (Nat.le_refl _) (by omega)) ⟨pk_in x 33 (by omega), nm_r (by rw [pk_cl x]) ⟨pk_in x 32 hx, nm_r (by rw [pk_cl x, xb_1]) H⟩⟩
    | succ d ih =>
      intro i fuel hi hf
      obtain ⟨fuel, rfl⟩ : ∃ q, fuel = q + 1 := ⟨fuel - 1, by omega⟩
      refine pk_le m i (fun z => by omega) (fun z => ⟨pk_in i 4 (by omega), pk_in (4 * x + i) 132 (by omega) (yb_4 x i), nm_r (e' := hc_set b_holds q (4 * x) (i + 1)) ?_ (nm_r (nI_1 i) (ih (i + 1) fuel (by omega) (by omega)))⟩)
      rw [pk_cl (4 * x + i) (yb_4 x i), pk_cl i, hc i (by omega), hc_set]
  exact ⟨m + 1, key m 0 (m + 1) (by omega) (by omega)⟩
end
section
variable {f_stackSize f_transactions f_putCount f_blocks f_tip f_poolCount f_queueCount : Int32} {a_tokenCount a_tokenOp a_tokenValue a_scriptInUse a_stack a_inputCount a_inputCoin a_inputA a_inputB a_outputCount a_outputAmount a_outputScript a_feeOf a_putRow a_parentOf a_heightOf a_chainWork a_blockState a_rewardAmount a_rewardScript a_blockSize a_blockTransaction a_laidBlock a_coinHeight a_coinSpent a_transactionHeight a_poolRow a_marked a_queue : Nat → Int32}
variable {g_made g_blocks g_arrivals g_tip g_pooled g_chainLength : Int32} {b_op b_arg b_length b_ins b_inCoin b_inA b_inB b_outs b_amount b_lock b_parent b_work b_rewardLock b_height b_many b_holds b_delivered b_arrived b_pool b_chain b_from b_worth b_within b_spent b_stack b_again b_chosen gfe grw : Nat → Int32}
theorem pl_hw {made blocks np : Nat} {S : pd_S} {pl : Nat → Int32} (w : pd_wf (a_tokenCount, a_tokenOp, a_tokenValue, a_inputCount, a_inputCoin, a_inputA, a_inputB, a_outputCount, a_outputAmount, a_outputScript, a_parentOf, a_heightOf, a_rewardScript, a_blockSize, a_blockTransaction, a_feeOf, a_rewardAmount) made blocks) (ag : pd_ag (a_tokenCount, a_tokenOp, a_tokenValue, a_inputCount, a_inputCoin, a_inputA, a_inputB, a_outputCount, a_outputAmount, a_outputScript, a_parentOf, a_heightOf, a_rewardScript, a_blockSize, a_blockTransaction, a_feeOf, a_rewardAmount) (b_length, b_op, b_arg, b_ins, b_inCoin, b_inA, b_inB, b_outs, b_amount, b_lock, b_parent, b_height, b_rewardLock, b_many, b_holds, gfe, grw) made blocks) (P : pd_pool (a_tokenCount, a_tokenOp, a_tokenValue, a_inputCount, a_inputCoin, a_inputA, a_inputB, a_outputCount, a_outputAmount, a_outputScript, a_parentOf, a_heightOf, a_rewardScript, a_blockSize, a_blockTransaction, a_feeOf, a_rewardAmount) S made pl np) : ∀ wo, pd_wor (b_length, b_op, b_arg, b_ins, b_inCoin, b_inA, b_inB, b_outs, b_amount, b_lock, b_parent, b_height, b_rewardLock, b_many, b_holds, gfe, grw) S.1 wo → ∀ k, k < np → ∀ i, i < (pd_ic (b_length, b_op, b_arg, b_ins, b_inCoin, b_inA, b_inB, b_outs, b_amount, b_lock, b_parent, b_height, b_rewardLock, b_many, b_holds, gfe, grw) (pl k).toNatClampNeg).toNatClampNeg → 120 ≤ (b_inCoin (3 * (pl k).toNatClampNeg + i)).toNatClampNeg → wo (b_inCoin (3 * (pl k).toNatClampNeg + i)).toNatClampNeg = grw ((b_inCoin (3 * (pl k).toNatClampNeg + i)).toNatClampNeg - 120) := by
  have hm := w.2.2.1
  intro wo wr k hk i hi h120
  obtain ⟨u, p1, p2, p3, p4, p5⟩ := P.2 k hk
  have euc := pd_cl p2 (by omega)
  rw [euc] at hi h120 ⊢
  obtain ⟨a1, _, _, a4, _⟩ := ag.1 u p1
  rw [a1] at hi
  have eco : b_inCoin (3 * u + i) = a_inputCoin (3 * u + i) := (a4 i hi).1
  obtain ⟨c, hc1, _, ecc, _⟩ := pd_wf_co w p1 hi
  have ecc' : (a_inputCoin (3 * u + i)).toNatClampNeg = c := ecc
  have q := p4 i hi
  rw [ecc] at q
  rw [eco, ecc'] at h120 ⊢
  rcases q with q | q
  · rw [wr c hc1 q.1]
    exact if_neg (by omega)
  · omega
end
end
section
theorem i_vc_forge {k : Nat} {u : SX} {v : SY} (I : i_Rel k u v) (hk : k + 4 ≤ 2048) (v1 : Int32) (v2 : Int32) : wpX_forge (fun r u' => wpY_forge (fun r' v' => r' = r ∧ i_Rel (k + 4) u' v') v v1 v2) u v1 v2 := by
  obtain ⟨f_stackSize, f_transactions, f_putCount, f_blocks, f_tip, f_poolCount, f_queueCount, a_tokenCount, a_tokenOp, a_tokenValue, a_scriptInUse, a_stack, a_inputCount, a_inputCoin, a_inputA, a_inputB, a_outputCount, a_outputAmount, a_outputScript, a_feeOf, a_putRow, a_parentOf, a_heightOf, a_chainWork, a_blockState, a_rewardAmount, a_rewardScript, a_blockSize, a_blockTransaction, a_laidBlock, a_coinHeight, a_coinSpent, a_transactionHeight, a_poolRow, a_marked, a_queue⟩ := u
  obtain ⟨g_made, g_blocks, g_arrivals, g_tip, g_pooled, g_chainLength, b_op, b_arg, b_length, b_ins, b_inCoin, b_inA, b_inB, b_outs, b_amount, b_lock, b_parent, b_work, b_rewardLock, b_height, b_many, b_holds, b_delivered, b_arrived, b_pool, b_chain, b_from, b_worth, b_within, b_spent, b_stack, b_again, b_chosen⟩ := v
  have I' := I
  obtain ⟨made, blocks, tp, n, np, pc, ar, ⟨rfl, rfl, rfl, rfl, rfl⟩, ⟨rfl, rfl, rfl, rfl, rfl⟩, ⟨rfl, rfl, rfl, rfl⟩, ⟨rfl, rfl, rfl⟩, ST, B, RD, ⟨eh, hn⟩, hl, P, hS⟩ := I
  have ST0 := ST
  obtain ⟨tk, w, ag, fq, rq, hp0, us, df, pu, fr⟩ := ST0
  have hbk := w.2.1
  have hb1 := w.1
  have hm := w.2.2.1
  have hnp := P.1
  have wE := pd_wf_ag w ag
  obtain ⟨htp, _, atp, vtp⟩ := B.2.2.2.2.2.1
  have har : ar ≤ 32 := by rw [B.2.2.1]; exact pd_cnt_le _ _
  obtain ⟨hpc, epc, hpr⟩ := pu
  have epc' : b_many 32 = nI pc := epc
  have hO := pd_inv_out (pd_inv_lay w n tp htp eh hn)
  unfold wpX_forge
  dsimp only
  refine xq_work (fun _ hbad => br_t rfl ?_) (fun j j1 j9 ej h1 h9 => br_f (by decide) ?_)
  · rcases hbad with q | ⟨q1, q2⟩
    · exact br_t q ⟨rfl, I'⟩
    · exact br_f q1 (br_t q2 ⟨rfl, I'⟩)
  rcases pk_ix v2 (n := 8) (by omega) with h | h | ⟨s, hs, rfl⟩
  · exact br_t h (br_t rfl (br_f h1 (br_f h9 (br_t h (br_t rfl ⟨rfl, I'⟩)))))
  · have h0 : ¬ v2 < 0 := Int32.not_lt.mpr (Int32.le_trans (by decide) h)
    exact br_f h0 (br_t h (br_t rfl (br_f h1 (br_f h9 (br_f h0 (br_t h (br_t rfl ⟨rfl, I'⟩)))))))
  have s0 : ¬ nI s < 0 := nI_pos (by omega)
  have s8 : ¬ (8 : Int32) ≤ nI s := nI_ge (b := 8) hs (by omega)
  have etp : (nI tp).toNatClampNeg = tp := pk_cl tp
  refine br_f s0 (br_f s8 (br_f (by decide) (pk_eq blocks 32 (fun e => br_f h1 (br_f h9 (br_f s0 (br_f s8 (br_f (by decide) (br_t (by rw [e]; rfl) ⟨rfl, I'⟩)))))) (fun e => ⟨pk_in tp 32 (by omega), pk_in tp 32 (by omega), ?_⟩))))
  rw [etp]
  have hne : ¬ nI blocks = 32 := fun q => e ((nI_eq (b := 32) (by omega) (by omega)).mp q)
  have hb32 : blocks < 32 := by omega
  -- the choice
  have a1 : pd_ag (a_tokenCount, a_tokenOp, a_tokenValue, a_inputCount, a_inputCoin, a_inputA, a_inputB, a_outputCount, a_outputAmount, a_outputScript, a_parentOf, a_heightOf, a_rewardScript, a_blockSize, a_blockTransaction, a_feeOf, a_rewardAmount) (a_tokenCount, a_tokenOp, a_tokenValue, a_inputCount, a_inputCoin, a_inputA, a_inputB, a_outputCount, a_outputAmount, a_outputScript, upd a_parentOf blocks (nI tp), upd a_heightOf blocks (a_heightOf tp + 1), upd a_rewardScript blocks (nI s), a_blockSize, a_blockTransaction, a_feeOf, a_rewardAmount) made blocks := ag_hd (fun b hb => pk_un (by omega)) (fun b hb => pk_un (by omega)) (fun b hb => pk_un (by omega))
  obtain ⟨m, q', m4, _, hq', _, hXr, hYr⟩ := fr_both (x0 := (64 : Int32) >>> (((a_heightOf tp + 1) / 4) &&& 31)) (pl := a_poolRow) (np := np) (W := fun wo => pd_wor (a_tokenCount, a_tokenOp, a_tokenValue, b_ins, b_inCoin, b_inA, b_inB, b_outs, b_amount, b_lock, b_parent, b_height, b_rewardLock, b_many, b_holds, a_feeOf, a_rewardAmount) (pd_lay (a_tokenCount, a_tokenOp, a_tokenValue, a_inputCount, a_inputCoin, a_inputA, a_inputB, a_outputCount, a_outputAmount, a_outputScript, a_parentOf, a_heightOf, a_rewardScript, a_blockSize, a_blockTransaction, a_feeOf, a_rewardAmount) n tp).1 wo)
    (f_stackSize := f_stackSize) (f_transactions := nI made) (f_putCount := nI pc) (f_blocks := nI (blocks + 1)) (f_tip := nI tp) (f_queueCount := f_queueCount) (a_scriptInUse := upd a_scriptInUse s 1) (a_stack := a_stack) (a_putRow := a_putRow) (a_chainWork := upd a_chainWork blocks (a_chainWork tp + v1)) (a_blockState := a_blockState) (a_laidBlock := a_laidBlock) (a_coinHeight := (pd_lay (a_tokenCount, a_tokenOp, a_tokenValue, a_inputCount, a_inputCoin, a_inputA, a_inputB, a_outputCount, a_outputAmount, a_outputScript, a_parentOf, a_heightOf, a_rewardScript, a_blockSize, a_blockTransaction, a_feeOf, a_rewardAmount) n tp).1) (a_coinSpent := (pd_lay (a_tokenCount, a_tokenOp, a_tokenValue, a_inputCount, a_inputCoin, a_inputA, a_inputB, a_outputCount, a_outputAmount, a_outputScript, a_parentOf, a_heightOf, a_rewardScript, a_blockSize, a_blockTransaction, a_feeOf, a_rewardAmount) n tp).2.1) (a_transactionHeight := (pd_lay (a_tokenCount, a_tokenOp, a_tokenValue, a_inputCount, a_inputCoin, a_inputA, a_inputB, a_outputCount, a_outputAmount, a_outputScript, a_parentOf, a_heightOf, a_rewardScript, a_blockSize, a_blockTransaction, a_feeOf, a_rewardAmount) n tp).2.2) (a_queue := a_queue)
    (g_made := nI made) (g_blocks := nI blocks) (g_arrivals := nI ar) (g_tip := nI tp) (b_work := b_work) (b_delivered := b_delivered) (b_arrived := b_arrived) (b_from := (pd_lay (a_tokenCount, a_tokenOp, a_tokenValue, a_inputCount, a_inputCoin, a_inputA, a_inputB, a_outputCount, a_outputAmount, a_outputScript, a_parentOf, a_heightOf, a_rewardScript, a_blockSize, a_blockTransaction, a_feeOf, a_rewardAmount) n tp).1) (b_spent := (pd_lay (a_tokenCount, a_tokenOp, a_tokenValue, a_inputCount, a_inputCoin, a_inputA, a_inputB, a_outputCount, a_outputAmount, a_outputScript, a_parentOf, a_heightOf, a_rewardScript, a_blockSize, a_blockTransaction, a_feeOf, a_rewardAmount) n tp).2.1) (b_within := (pd_lay (a_tokenCount, a_tokenOp, a_tokenValue, a_inputCount, a_inputCoin, a_inputA, a_inputB, a_outputCount, a_outputAmount, a_outputScript, a_parentOf, a_heightOf, a_rewardScript, a_blockSize, a_blockTransaction, a_feeOf, a_rewardAmount) n tp).2.2) (b_again := b_again) (b_chosen := b_chosen)
    (pd_wf_ag w a1) wE (pd_ag_trans (pd_ag_symm a1) ag) (pd_feq_ag w ag fq) hb32 hnp (pd_pool_pl P) (fun i j hi hj q => pd_pool_inj P hi hj q) (pl_hw w ag P) 4 0 rfl (pd_reset a_marked 12 0) (fun _ => 0) (fun k hk => ⟨fun _ ⟨j, hj, _⟩ => by omega, fun _ => if_pos (by omega)⟩) (fun j hj => by omega)
  refine xm_addBlock hb32 hs (xm_forge65 ⟨5, hXr _ a_blockSize a_blockTransaction _ ⟨fr blocks (Nat.le_refl _) hb32, fun y _ => rfl, fun _ _ => rfl, fun j hj => by omega, fun y hy => pk_un hy, pk_us⟩ (fun mk' bs' bt' rw' hI => ?_) 5 (by omega)⟩)
  -- the new block, on both sides
  have hJ : nb_J b_holds q' blocks m (hc_set b_holds q' (4 * blocks) m) := ⟨fun j hj => hc_no m (by omega), fun j hj => hc_in m hj, fun j hj => hc_no m (by omega)⟩
  obtain ⟨hN, ST'⟩ := st_nb (pa' := upd a_parentOf blocks (nI tp)) (he' := upd a_heightOf blocks (a_heightOf tp + 1)) (rs' := upd a_rewardScript blocks (nI s)) (bs' := bs') (bt' := bt') (rw' := rw') (use' := upd a_scriptInUse s 1) (qa := upd b_parent blocks (nI tp)) (qh := upd b_height blocks (b_height tp + 1)) (ql := upd b_rewardLock blocks (nI s)) (qm := upd (upd b_many blocks 0) blocks (nI m)) (qo := hc_set b_holds q' (4 * blocks) m) (pr' := a_putRow) (pc' := pc)
    ST htp hs m4 (by omega) q' hq' pk_us rfl (fun b hb => pk_un (by omega)) rfl (by rw [pk_us]; exact hI) rfl rfl rfl rfl (fun b hb => by rw [pk_un (by omega), pk_un (by omega)]) pk_us (by rw [pk_un (by omega), pk_un (by omega)]; exact epc') hJ ⟨hpc, hpr⟩
  have ST2 := ST'
  obtain ⟨tk', w', aE', fq', rq', hp0', us', df', pu', fr'⟩ := ST'
  have aN := nb_ag w hN
  have B1 := nb_blk (cw' := upd a_chainWork blocks (a_chainWork tp + v1)) (wk' := upd b_work blocks v1) w hN htp (by omega) B (fun b hb => pk_un (by omega)) (fun b hb => pk_un (by omega)) pk_us pk_us ⟨j, j9, ej⟩
  have B2 := cn_fdl (by omega) B1 (by omega)
  have eav : b_arrived blocks = -1 := (B.2.2.2.1 blocks (Nat.le_refl _) hb32).2.1
  have R1 : cn_rdb (a_tokenCount, a_tokenOp, a_tokenValue, a_inputCount, a_inputCoin, a_inputA, a_inputB, a_outputCount, a_outputAmount, a_outputScript, upd a_parentOf blocks (nI tp), upd a_heightOf blocks (a_heightOf tp + 1), upd a_rewardScript blocks (nI s), bs', bt', a_feeOf, rw') (upd b_delivered blocks 1) b_arrived blocks := by
    intro c c0 hc e1 e2
    rw [pk_un (by omega)] at e1
    exact cn_rdy_ag aN RD c c0 hc e1 e2
  have epar : (upd a_parentOf blocks (nI tp) blocks).toNatClampNeg = tp := by rw [pk_us]; exact etp
  have eht : upd a_heightOf blocks (a_heightOf tp + 1) tp = nI n := by rw [pk_un (by omega)]; exact eh
  have elay := pd_ag_lay w aN n tp htp eh hn
  have P2 := pd_pool_ag aN P
  rw [← elay] at P2
  obtain ⟨T, nT, np', pl', z, hT, eT, hnT, P', hz, B', hX1, hY1⟩ := ar_one (a_blockState := a_blockState) (b_arrived := b_arrived) (b := blocks) (pl := a_poolRow) (f_putCount := nI pc) (a_scriptInUse := upd a_scriptInUse s 1) (a_putRow := a_putRow) (b_chosen := hc_set b_chosen q' 0 m) w' aE' tk' tk' fq' rq' hp0' B2 (by omega) (by omega) pk_us eav (by rw [epar]; exact atp) eht hn P2
  have R2 := cn_rdb_arr (b := blocks) (ar := ar) w' (by omega) (by omega) R1
  refine hX1 _ (pd_lay (a_tokenCount, a_tokenOp, a_tokenValue, a_inputCount, a_inputCoin, a_inputA, a_inputB, a_outputCount, a_outputAmount, a_outputScript, a_parentOf, a_heightOf, a_rewardScript, a_blockSize, a_blockTransaction, a_feeOf, a_rewardAmount) n tp) f_stackSize f_queueCount a_stack mk' a_laidBlock a_queue hO (fun ss st mk laid qc q hl' => ?_)
  -- Y
  refine br_f h1 (br_f h9 (br_f s0 (br_f s8 (br_f (by decide) (br_f hne ?_)))))
  refine ry_tip (gfe := a_feeOf) (grw := a_rewardAmount) w ag tk fq rq htp eh hn vtp _ hS fun wo st2 ch hw hc => ⟨5, ?_⟩
  refine hYr _ v1 (nI s) _ wo st2 ch hw ?_ 5 (by omega)
  refine ym_add (by omega) (by omega) (ym_forge182 (q := q') hb32 m4 (fun j hj => ?_) ?_)
  · have := hc_in (f := b_chosen) (q := q') (base := 0) m hj
    rw [Nat.zero_add] at this
    exact this
  have wE' := pd_wf_ag w' aE'
  have hpaE : ∀ c, 0 < c → c < blocks + 1 → upd b_parent blocks (nI tp) c = upd a_parentOf blocks (nI tp) c := fun c c0 hc => (aE'.2.1 c hc).2.2.2.2.1 c0
  have h01 : ∀ c, c < blocks + 1 → (upd b_delivered blocks 1 c = 0 ∨ upd b_delivered blocks 1 c = 1) ∧ (b_arrived c = -1 ∨ 0 ≤ b_arrived c) := by
    intro c hc
    by_cases ec : c = blocks
    · subst ec; exact ⟨Or.inr pk_us, Or.inl eav⟩
    · rw [pk_un ec]; exact cn_h01 hbk B c (by omega)
  refine ⟨3, br_f (by decide) ⟨blocks + 2, ym_scanF (gfe := a_feeOf) (grw := rw') (b := blocks) (ar := ar) (Q := fun u => ∃ (S' : pd_S) (wo' ch' sk' ag' : Nat → Int32) (cl' : Int32), pd_out S' ∧ u = (nI made, nI (blocks + 1), nI (ar + 1), nI T, nI np', cl', a_tokenOp, a_tokenValue, a_tokenCount, b_ins, b_inCoin, b_inA, b_inB, b_outs, b_amount, b_lock, upd b_parent blocks (nI tp), upd b_work blocks v1, upd b_rewardLock blocks (nI s), upd b_height blocks (b_height tp + 1), upd (upd b_many blocks 0) blocks (nI m), hc_set b_holds q' (4 * blocks) m, upd b_delivered blocks 1, upd b_arrived blocks (nI ar), pl', ch', (S').1, wo', (S').2.2, (S').2.1, sk', ag', hc_set b_chosen q' 0 m)) wE' rfl rfl (by omega) (by omega) h01 pk_us eav ?_ (fun post' hq => hY1 post' _ _ _ _ _ _ hO fun S' wo' ch' sk' ag' cl' ho => hq _ ⟨S', wo', ch', sk', ag', cl', ho, rfl⟩) ?_ (blocks - 1) 1 (blocks + 2) (by omega) (by omega) (by omega) (fun c hc1 hc2 e1 e2 => ?_)⟩⟩
  · rw [hpaE blocks (by omega) (by omega), epar]; exact atp
  · rintro u ⟨S', wo', ch', sk', ag', cl', ho, rfl⟩
    dsimp only
    refine br_f (by decide) ⟨blocks + 2, ym_scanN (gfe := a_feeOf) (grw := rw') wE' rfl (cn_h01 (by omega) B') (br_t rfl ?_) blocks 1 (blocks + 2) (by omega) (by omega) (by omega) (fun c hc1 hc2 e1 e2 => ?_)⟩
    · refine ⟨rfl, ?_⟩
      exact ⟨made, blocks + 1, T, nT, np', pc, ar + 1, ⟨rfl, rfl, rfl, rfl, rfl⟩, ⟨rfl, rfl, rfl, rfl, rfl⟩, ⟨rfl, rfl, rfl, rfl⟩, ⟨rfl, rfl, rfl⟩, ST2, B', R2, ⟨eT, hnT⟩, hl', P', ho⟩
    · rw [hpaE c (by omega) hc2]
      exact R2 c (by omega) hc2 e1 e2
  · rw [hpaE c (by omega) (by omega)]
    exact R1 c (by omega) hc2 e1 e2
end
section
/-! the start -/
abbrev i0_z : Nat → Int32 := fun _ => 0
def i0_av : Nat → Int32 := pd_setH i0_z 1 31 (-1)
theorem i0_cnt : 1 = pd_cnt i0_av 32 := by decide
theorem i0_av0 : i0_av 0 = 0 := by decide
theorem i0_avn {b : Nat} (h1 : 1 ≤ b) (h2 : b < 32) : i0_av b = -1 := pd_setH_in (by omega)
theorem i0_c0 {x : Int32} (h : x = 0) : x.toNatClampNeg = 0 := by rw [h]; decide
theorem i0_wf : pd_wf (i0_z, i0_z, i0_z, i0_z, i0_z, i0_z, i0_z, i0_z, i0_z, i0_z, upd i0_z 0 0, upd i0_z 0 0, upd i0_z 0 0, i0_z, i0_z, i0_z, upd i0_z 0 ((64 : Int32) >>> (((0 : Int32) / 4) &&& 31))) 0 1 := by
  refine ⟨by omega, by omega, by omega, rfl, fun t ht => by omega, fun b hb => ?_⟩
  obtain rfl : b = 0 := by omega
  exact ⟨⟨0, by omega, rfl⟩, ⟨0, by omega, rfl⟩, ⟨0, by omega, rfl, fun i hi => by omega⟩, fun h => by omega⟩
theorem i0_ag {gf gr : Nat → Int32} : pd_ag (i0_z, i0_z, i0_z, i0_z, i0_z, i0_z, i0_z, i0_z, i0_z, i0_z, upd i0_z 0 0, upd i0_z 0 0, upd i0_z 0 0, i0_z, i0_z, gf, gr) (i0_z, i0_z, i0_z, i0_z, i0_z, i0_z, i0_z, i0_z, i0_z, i0_z, upd i0_z 0 (-1), i0_z, i0_z, i0_z, i0_z, gf, gr) 0 1 := by
  refine ⟨fun t ht => by omega, fun b hb => ?_, fun s _ => ⟨rfl, fun _ _ => ⟨rfl, rfl⟩⟩⟩
  obtain rfl : b = 0 := by omega
  refine ⟨rfl, rfl, rfl, rfl, fun h => by omega, fun i hi => rfl⟩
theorem i0_stat : cn_stat (i0_z, i0_z, i0_z, i0_z, i0_z, i0_z, i0_z, i0_z, i0_z, i0_z, upd i0_z 0 0, upd i0_z 0 0, upd i0_z 0 0, i0_z, i0_z, i0_z, upd i0_z 0 ((64 : Int32) >>> (((0 : Int32) / 4) &&& 31))) (i0_z, i0_z, i0_z, i0_z, i0_z, i0_z, i0_z, i0_z, i0_z, i0_z, upd i0_z 0 (-1), i0_z, i0_z, i0_z, i0_z, i0_z, upd i0_z 0 ((64 : Int32) >>> (((0 : Int32) / 4) &&& 31))) (upd i0_z 0 1) i0_z 0 1 0 := by
  refine ⟨fun s hs => ⟨0, by omega, rfl, fun i hi => by omega⟩, i0_wf, i0_ag, fun t ht => by omega, fun b hb => ?_, (pk_us : upd i0_z 0 (-1) 0 = -1), fun s hs => ?_, ⟨0, 0, by omega, by omega, rfl, rfl, rfl, rfl, fun i hi => by omega, fun i j hi => by omega, fun o ho => by omega, fun t h1 h2 => ⟨rfl, rfl⟩⟩, ⟨by omega, rfl, fun i hi => by omega⟩, fun b h1 h2 => rfl⟩
  · obtain rfl : b = 0 := by omega
    rw [i0_c0 (rfl : pd_bs (i0_z, i0_z, i0_z, i0_z, i0_z, i0_z, i0_z, i0_z, i0_z, i0_z, upd i0_z 0 0, upd i0_z 0 0, upd i0_z 0 0, i0_z, i0_z, i0_z, upd i0_z 0 ((64 : Int32) >>> (((0 : Int32) / 4) &&& 31))) 0 = 0), pd_srw]
    show upd i0_z 0 ((64 : Int32) >>> (((0 : Int32) / 4) &&& 31)) 0 = (64 : Int32) >>> ((upd i0_z 0 0 0 / 4) &&& 31)
    rw [pk_us, pk_us]
  · by_cases e : s = 0
    · subst e
      exact Or.inr ⟨pk_us, Or.inl ⟨0, by omega, rfl⟩⟩
    · refine Or.inl ⟨pk_un e, ?_⟩
      rintro (⟨b, b1, b2⟩ | ⟨t, o, h, _⟩)
      · obtain rfl : b = 0 := by omega
        have b2' : (0 : Int32) = nI s := b2
        exact e ((nI_eq (a := 0) (by omega) (by omega)).mp b2').symm
      · omega
theorem i0_blk : cn_blk (i0_z, i0_z, i0_z, i0_z, i0_z, i0_z, i0_z, i0_z, i0_z, i0_z, upd i0_z 0 0, upd i0_z 0 0, upd i0_z 0 0, i0_z, i0_z, i0_z, upd i0_z 0 ((64 : Int32) >>> (((0 : Int32) / 4) &&& 31))) (upd i0_z 0 3) (upd i0_z 0 1) i0_av (upd i0_z 0 1) (upd i0_z 0 1) 1 1 0 99 := by
  have va : pd_va (i0_z, i0_z, i0_z, i0_z, i0_z, i0_z, i0_z, i0_z, i0_z, i0_z, upd i0_z 0 0, upd i0_z 0 0, upd i0_z 0 0, i0_z, i0_z, i0_z, upd i0_z 0 ((64 : Int32) >>> (((0 : Int32) / 4) &&& 31))) 0 := by
    unfold pd_va
    rw [i0_c0 (rfl : pd_he (i0_z, i0_z, i0_z, i0_z, i0_z, i0_z, i0_z, i0_z, i0_z, i0_z, upd i0_z 0 0, upd i0_z 0 0, upd i0_z 0 0, i0_z, i0_z, i0_z, upd i0_z 0 ((64 : Int32) >>> (((0 : Int32) / 4) &&& 31))) 0 = 0)]
    exact trivial
  have a0 : (0 : Int32) ≤ i0_av 0 := by rw [i0_av0]; decide
  refine ⟨fun b hb _ => ?_, fun b c hb hc _ _ => by omega, i0_cnt, fun b h1 h2 => ⟨pk_un (by omega), i0_avn h1 h2, pk_un (by omega)⟩, ⟨rfl, fun b hb => ?_, fun b h0 hb => by omega⟩, ⟨by omega, by omega, a0, va⟩, fun b hb hne => by omega, a0⟩
  · obtain rfl : b = 0 := by omega
    exact Or.inr (Or.inr ⟨pk_us, ⟨0, by omega, i0_av0⟩, fun h => by omega, Or.inl ⟨pk_us, va⟩⟩)
  · obtain rfl : b = 0 := by omega
    exact ⟨1, by omega, pk_us⟩
section
variable {g_made g_blocks g_arrivals g_tip g_pooled g_chainLength : Int32} {b_op b_arg b_length b_ins b_inCoin b_inA b_inB b_outs b_amount b_lock b_parent b_work b_rewardLock b_height b_many b_holds b_delivered b_arrived b_pool b_chain b_from b_worth b_within b_spent b_stack b_again b_chosen gfe grw : Nat → Int32}
theorem ym_init257 {post : SY → Prop} (H : post (g_made, g_blocks, g_arrivals, g_tip, g_pooled, g_chainLength, b_op, b_arg, b_length, b_ins, b_inCoin, b_inA, b_inB, b_outs, b_amount, b_lock, b_parent, b_work, b_rewardLock, b_height, b_many, b_holds, b_delivered, i0_av, b_pool, b_chain, b_from, b_worth, b_within, b_spent, b_stack, b_again, b_chosen)) : ∃ fuel, wY_init_257 post g_made g_blocks g_arrivals g_tip g_pooled g_chainLength fuel 1 b_op b_arg b_length b_ins b_inCoin b_inA b_inB b_outs b_amount b_lock b_parent b_work b_rewardLock b_height b_many b_holds b_delivered i0_z b_pool b_chain b_from b_worth b_within b_spent b_stack b_again b_chosen := by
  have key : ∀ (d i fuel : Nat), i + d = 31 → d < fuel → wY_init_257 post g_made g_blocks g_arrivals g_tip g_pooled g_chainLength fuel (nI (1 + i)) b_op b_arg b_length b_ins b_inCoin b_inA b_inB b_outs b_amount b_lock b_parent b_work b_rewardLock b_height b_many b_holds b_delivered (pd_setH i0_z 1 i (-1)) b_pool b_chain b_from b_worth b_within b_spent b_stack b_again b_chosen := by
    intro d
    induction d with
    | zero =>
      intro i fuel hd hf
      obtain ⟨fuel, rfl⟩ : ∃ q, fuel = q + 1 := ⟨fuel - 1, by omega⟩
      obtain rfl : i = 31 := by omega
      exact br_t (by decide) H
    | succ d ih =>
      intro i fuel hd hf
      obtain ⟨fuel, rfl⟩ : ∃ q, fuel = q + 1 := ⟨fuel - 1, by omega⟩
      exact pk_le 32 (1 + i) (fun z => by omega) (fun z => ⟨pk_in (1 + i) 32 (by omega), nm_r (by rw [pk_cl (x := nI (1 + i)) (1 + i), ← pd_setH_s]) (nm_r (nI_1 (1 + i)) (ih (i + 1) fuel (by omega) (by omega)))⟩)
  have := key 31 0 32 (by omega) (by omega)
  rw [pd_setH_0] at this
  exact ⟨32, this⟩
end
theorem i_vc0 : wpX_init (fun u => wpY_init (fun v => i_Rel 0 u v)) := by
  unfold wpX_init
  refine xm_addBlock (x := 0) (p := 0) (s := 0) (by omega) (by omega) ?_
  refine nm_e ?_
  refine xm_layChain (b := 0) (n := 0) (S := (i0_z, i0_z, i0_z)) i0_wf (by omega) rfl (by omega) ⟨fun _ _ => rfl, fun _ _ => rfl, fun _ _ => rfl⟩ (fun laid hl => ?_)
  unfold wpY_init
  refine nm_e (nm_e (nm_r (by rw [xb_1]) ?_))
  refine ym_init257 ?_
  exact ⟨0, 1, 0, 0, 0, 0, 1, ⟨rfl, rfl, rfl, rfl, rfl⟩, ⟨rfl, rfl, rfl, rfl, rfl⟩, ⟨rfl, rfl, rfl, rfl⟩, ⟨rfl, rfl, rfl⟩, i0_stat, i0_blk, fun b h0 hb => by omega, ⟨rfl, by omega⟩, hl, ⟨by omega, fun k hk => by omega⟩, ⟨fun _ _ => rfl, fun _ _ => rfl, fun _ _ => rfl⟩⟩
end

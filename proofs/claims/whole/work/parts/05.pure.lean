/-! the pure picture: data D of transactions, blocks, scripts; what a chain lays -/
abbrev pd_F : Type := Nat → Int32
abbrev pd_D : Type := pd_F × pd_F × pd_F × pd_F × pd_F × pd_F × pd_F × pd_F × pd_F × pd_F × pd_F × pd_F × pd_F × pd_F × pd_F × pd_F × pd_F
abbrev pd_tc (D : pd_D) : pd_F := D.1
abbrev pd_op (D : pd_D) : pd_F := D.2.1
abbrev pd_tv (D : pd_D) : pd_F := D.2.2.1
abbrev pd_ic (D : pd_D) : pd_F := D.2.2.2.1
abbrev pd_co (D : pd_D) : pd_F := D.2.2.2.2.1
abbrev pd_ia (D : pd_D) : pd_F := D.2.2.2.2.2.1
abbrev pd_ib (D : pd_D) : pd_F := D.2.2.2.2.2.2.1
abbrev pd_oc (D : pd_D) : pd_F := D.2.2.2.2.2.2.2.1
abbrev pd_oa (D : pd_D) : pd_F := D.2.2.2.2.2.2.2.2.1
abbrev pd_os (D : pd_D) : pd_F := D.2.2.2.2.2.2.2.2.2.1
abbrev pd_pa (D : pd_D) : pd_F := D.2.2.2.2.2.2.2.2.2.2.1
abbrev pd_he (D : pd_D) : pd_F := D.2.2.2.2.2.2.2.2.2.2.2.1
abbrev pd_rs (D : pd_D) : pd_F := D.2.2.2.2.2.2.2.2.2.2.2.2.1
abbrev pd_bs (D : pd_D) : pd_F := D.2.2.2.2.2.2.2.2.2.2.2.2.2.1
abbrev pd_bt (D : pd_D) : pd_F := D.2.2.2.2.2.2.2.2.2.2.2.2.2.2.1
abbrev pd_fe (D : pd_D) : pd_F := D.2.2.2.2.2.2.2.2.2.2.2.2.2.2.2.1
abbrev pd_rw (D : pd_D) : pd_F := D.2.2.2.2.2.2.2.2.2.2.2.2.2.2.2.2
/-- coin heights, spent, transaction heights -/
abbrev pd_S : Type := pd_F × pd_F × pd_F
def pd_setH (f : pd_F) (base n : Nat) (h : Int32) : pd_F := fun c => if base ≤ c ∧ c < base + n then h else f c
def pd_spend (f co : pd_F) (base : Nat) : Nat → pd_F
  | 0 => f
  | n + 1 => upd (pd_spend f co base n) (co (base + n)).toNatClampNeg 1
def pd_layTx (D : pd_D) (t : Nat) (h : Int32) (S : pd_S) : pd_S := (pd_setH S.1 (3 * t) (pd_oc D t).toNatClampNeg h, pd_spend S.2.1 (pd_co D) (3 * t) (pd_ic D t).toNatClampNeg, upd S.2.2 t h)
def pd_txs (D : pd_D) (b : Nat) (h : Int32) : Nat → pd_S → pd_S
  | 0, S => S
  | n + 1, S => pd_layTx D (pd_bt D (4 * b + n)).toNatClampNeg h (pd_txs D b h n S)
def pd_blk (D : pd_D) (b : Nat) (S : pd_S) : pd_S :=
  (upd (pd_txs D b (pd_he D b) (pd_bs D b).toNatClampNeg S).1 (120 + b) (pd_he D b), (pd_txs D b (pd_he D b) (pd_bs D b).toNatClampNeg S).2)
def pd_S0 : pd_S := (fun c => if c < 152 then -1 else 0, fun _ => 0, fun t => if t < 40 then -1 else 0)
def pd_lay (D : pd_D) : Nat → Nat → pd_S
  | 0, b => pd_blk D b pd_S0
  | n + 1, b => pd_blk D b (pd_lay D n (pd_pa D b).toNatClampNeg)
def pd_sc (D : pd_D) (c : Nat) : Nat := if c < 120 then (pd_os D c).toNatClampNeg else (pd_rs D (c - 120)).toNatClampNeg
def pd_fit (D : pd_D) (c : Nat) (A B h g : Int32) : Prop := fx_fits (pd_tc D) (pd_op D) (pd_tv D) (pd_sc D c) A B h g
def pd_okIn (D : pd_D) (S : pd_S) (h : Int32) (p : Nat) : Prop :=
  0 ≤ S.1 (pd_co D p).toNatClampNeg ∧ S.2.1 (pd_co D p).toNatClampNeg = 0 ∧ (120 ≤ (pd_co D p).toNatClampNeg → 2 ≤ h - S.1 (pd_co D p).toNatClampNeg)
    ∧ pd_fit D (pd_co D p).toNatClampNeg (pd_ia D p) (pd_ib D p) h (S.1 (pd_co D p).toNatClampNeg)
def pd_okTx (D : pd_D) (S : pd_S) (t : Nat) (h : Int32) : Prop :=
  S.2.2 t < 0 ∧ (∀ i, i < (pd_ic D t).toNatClampNeg → pd_okIn D S h (3 * t + i)) ∧ 0 ≤ pd_fe D t
def pd_okTxs (D : pd_D) (b : Nat) (h : Int32) : Nat → pd_S → Prop
  | 0, _ => True
  | n + 1, S => pd_okTxs D b h n S ∧ pd_okTx D (pd_txs D b h n S) (pd_bt D (4 * b + n)).toNatClampNeg h
def pd_valid (D : pd_D) : Nat → Nat → Prop
  | 0, _ => True
  | n + 1, b => pd_valid D n (pd_pa D b).toNatClampNeg ∧ pd_okTxs D b (pd_he D b) (pd_bs D b).toNatClampNeg (pd_lay D n (pd_pa D b).toNatClampNeg)
def pd_anc (D : pd_D) (b : Nat) : Nat → Nat
  | 0 => b
  | k + 1 => (pd_pa D (pd_anc D b k)).toNatClampNeg
def pd_coin (D : pd_D) (made blocks c : Nat) : Prop := (c < 120 ∧ c / 3 < made ∧ c % 3 < (pd_oc D (c / 3)).toNatClampNeg) ∨ (120 ≤ c ∧ c - 120 < blocks)
/-- one transaction is as make lets it be -/
def pd_wfT (D : pd_D) (blocks t : Nat) : Prop := ∃ n m, 1 ≤ n ∧ n ≤ 3 ∧ 1 ≤ m ∧ m ≤ 3 ∧ pd_ic D t = nI n ∧ pd_oc D t = nI m
    ∧ (∀ i, i < n → ∃ c, c < 152 ∧ pd_co D (3 * t + i) = nI c ∧ pd_coin D t blocks c)
    ∧ (∀ i j, i < n → j < n → pd_co D (3 * t + i) = pd_co D (3 * t + j) → i = j)
    ∧ (∀ o, o < m → ∃ s, s < 8 ∧ pd_os D (3 * t + o) = nI s)
def pd_wfB (D : pd_D) (made b : Nat) : Prop := (∃ h, h ≤ b ∧ pd_he D b = nI h) ∧ (∃ s, s < 8 ∧ pd_rs D b = nI s)
    ∧ (∃ n, n ≤ 4 ∧ pd_bs D b = nI n ∧ ∀ i, i < n → ∃ t, t < made ∧ pd_bt D (4 * b + i) = nI t)
    ∧ (0 < b → ∃ p, p < b ∧ pd_pa D b = nI p ∧ pd_he D b = pd_he D p + 1)
def pd_wf (D : pd_D) (made blocks : Nat) : Prop := 1 ≤ blocks ∧ blocks ≤ 32 ∧ made ≤ 40 ∧ pd_bs D 0 = 0 ∧ (∀ t, t < made → pd_wfT D blocks t) ∧ (∀ b, b < blocks → pd_wfB D made b)
def pd_used (D : pd_D) (made blocks s : Nat) : Prop := (∃ b, b < blocks ∧ pd_rs D b = nI s) ∨ (∃ t o, t < made ∧ o < (pd_oc D t).toNatClampNeg ∧ pd_os D (3 * t + o) = nI s)
def pd_agT (D E : pd_D) (t : Nat) : Prop := pd_ic E t = pd_ic D t ∧ pd_oc E t = pd_oc D t ∧ pd_fe E t = pd_fe D t
    ∧ (∀ i, i < (pd_ic D t).toNatClampNeg → pd_co E (3 * t + i) = pd_co D (3 * t + i) ∧ pd_ia E (3 * t + i) = pd_ia D (3 * t + i) ∧ pd_ib E (3 * t + i) = pd_ib D (3 * t + i))
    ∧ (∀ o, o < (pd_oc D t).toNatClampNeg → pd_oa E (3 * t + o) = pd_oa D (3 * t + o) ∧ pd_os E (3 * t + o) = pd_os D (3 * t + o))
def pd_agB (D E : pd_D) (b : Nat) : Prop := pd_he E b = pd_he D b ∧ pd_rs E b = pd_rs D b ∧ pd_bs E b = pd_bs D b ∧ pd_rw E b = pd_rw D b ∧ (0 < b → pd_pa E b = pd_pa D b)
    ∧ (∀ i, i < (pd_bs D b).toNatClampNeg → pd_bt E (4 * b + i) = pd_bt D (4 * b + i))
def pd_agS (D E : pd_D) (s : Nat) : Prop := pd_tc E s = pd_tc D s ∧ ∀ i, i < (pd_tc D s).toNatClampNeg → pd_op E (8 * s + i) = pd_op D (8 * s + i) ∧ pd_tv E (8 * s + i) = pd_tv D (8 * s + i)
def pd_ag (D E : pd_D) (made blocks : Nat) : Prop := (∀ t, t < made → pd_agT D E t) ∧ (∀ b, b < blocks → pd_agB D E b) ∧ (∀ s, pd_used D made blocks s → pd_agS D E s)
/-- what holds of every state that a chain lays -/
def pd_inv (D : pd_D) (made blocks : Nat) (S : pd_S) : Prop := (∀ c, 152 ≤ c → S.1 c = 0) ∧ (∀ c, 152 ≤ c → S.2.1 c = 0) ∧ (∀ t, 40 ≤ t → S.2.2 t = 0)
    ∧ (∀ c, c < 152 → 0 ≤ S.1 c → pd_coin D made blocks c) ∧ (∀ c, c < 120 → 0 ≤ S.1 c → 0 ≤ S.2.2 (c / 3)) ∧ (∀ t, 0 ≤ S.2.2 t → t < 40 → t < made)
/-! ### small facts -/
theorem pd_m1 : ¬ (0 : Int32) ≤ -1 := by decide
theorem pd_cl {x : Int32} {n : Nat} (e : x = nI n) (h : n < 2 ^ 31) : x.toNatClampNeg = n := by rw [e]; exact nI_clamp h
theorem pd_setH_0 (f : pd_F) (base : Nat) (h : Int32) : pd_setH f base 0 h = f := by
  funext c; unfold pd_setH; rw [if_neg (by omega)]
theorem pd_setH_s (f : pd_F) (base n : Nat) (h : Int32) : pd_setH f base (n + 1) h = upd (pd_setH f base n h) (base + n) h := by
  funext c; unfold pd_setH upd; dsimp only
  by_cases e : c = base + n
  · rw [if_pos (by omega), if_pos e]
  · rw [if_neg e]
    by_cases q : base ≤ c ∧ c < base + n
    · rw [if_pos q, if_pos (by omega)]
    · rw [if_neg q, if_neg (by omega)]
theorem pd_setH_in {f : pd_F} {base n c : Nat} {h : Int32} (q : base ≤ c ∧ c < base + n) : pd_setH f base n h c = h := if_pos q
theorem pd_setH_no {f : pd_F} {base n c : Nat} {h : Int32} (q : ¬ (base ≤ c ∧ c < base + n)) : pd_setH f base n h c = f c := if_neg q
theorem pd_spend_no {f co : pd_F} {base c : Nat} : ∀ n, (∀ i, i < n → (co (base + i)).toNatClampNeg ≠ c) → pd_spend f co base n c = f c := by
  intro n
  induction n with
  | zero => intro _; rfl
  | succ n ih => intro h; rw [pd_spend, pk_un (fun e => h n (by omega) e.symm)]; exact ih fun i hi => h i (by omega)
theorem pd_spend_or {f co : pd_F} {base c : Nat} : ∀ n, (pd_spend f co base n c = f c) ∨ (∃ i, i < n ∧ (co (base + i)).toNatClampNeg = c) := by
  intro n
  induction n with
  | zero => exact Or.inl rfl
  | succ n ih =>
    by_cases e : (co (base + n)).toNatClampNeg = c
    · exact Or.inr ⟨n, by omega, e⟩
    · rw [pd_spend, pk_un (fun q => e q.symm)]
      rcases ih with h | ⟨i, hi, e⟩
      · exact Or.inl h
      · exact Or.inr ⟨i, by omega, e⟩
theorem pd_spend_01 {f co : pd_F} {base c : Nat} (hf : f c = 0 ∨ f c = 1) : ∀ n, pd_spend f co base n c = 0 ∨ pd_spend f co base n c = 1 := by
  intro n
  induction n with
  | zero => exact hf
  | succ n ih =>
    by_cases e : c = (co (base + n)).toNatClampNeg
    · right; rw [pd_spend, ← e, pk_us]
    · rw [pd_spend, pk_un e]; exact ih
theorem pd_spend_eq {f co co' : pd_F} {base : Nat} : ∀ n, (∀ i, i < n → co' (base + i) = co (base + i)) → pd_spend f co' base n = pd_spend f co base n := by
  intro n
  induction n with
  | zero => intro _; rfl
  | succ n ih => intro h; rw [pd_spend, pd_spend, h n (by omega), ih fun i hi => h i (by omega)]
/-! ### agreement -/
theorem fx_run_op {op arg op' arg' : pd_F} {h g : Int32} : ∀ (r p s : Nat) (a : pd_F) (n : Nat), (∀ q, p ≤ q → q < p + r → op' q = op q ∧ arg' q = arg q) → (fx_run op' arg' h g r p s a n ↔ fx_run op arg h g r p s a n) := by
  intro r
  induction r with
  | zero => intro p s a n _; rw [fx_run, fx_run]
  | succ r ih =>
    intro p s a n H
    have H' : ∀ q, p + 1 ≤ q → q < p + 1 + r → op' q = op q ∧ arg' q = arg q := fun q h1 h2 => H q (by omega) (by omega)
    cases s with
    | succ s => rw [fx_run, fx_run]; exact ih _ _ _ _ H'
    | zero =>
      obtain ⟨e1, e2⟩ := H p (by omega) (by omega)
      rw [fx_run, fx_run, e1, e2, ih _ _ _ _ H', ih _ _ _ _ H']
theorem fx_fits_op {tc op arg tc' op' arg' : pd_F} {s : Nat} {A B h g : Int32} (e : tc' s = tc s) (H : ∀ i, i < (tc s).toNatClampNeg → op' (8 * s + i) = op (8 * s + i) ∧ arg' (8 * s + i) = arg (8 * s + i)) : fx_fits tc' op' arg' s A B h g ↔ fx_fits tc op arg s A B h g := by
  unfold fx_fits
  rw [e]
  refine fx_run_op _ _ _ _ _ fun q h1 h2 => ?_
  obtain ⟨i, rfl⟩ : ∃ i, q = 8 * s + i := ⟨q - 8 * s, by omega⟩
  exact H i (by omega)
theorem pd_used_sc {D : pd_D} {made blocks c : Nat} (w : pd_wf D made blocks) (hc : c < 152) (h : pd_coin D made blocks c) : pd_used D made blocks (pd_sc D c) ∧ pd_sc D c < 8 := by
  obtain ⟨w1, w2, w3, w4, wT, wB⟩ := w
  unfold pd_sc
  rcases h with ⟨h1, h2, h3⟩ | ⟨h1, h2⟩
  · rw [if_pos h1]
    obtain ⟨n, m, _, _, _, hm, _, em, _, _, ho⟩ := wT _ h2
    rw [pd_cl em (by omega)] at h3
    obtain ⟨s, hs, es⟩ := ho _ h3
    rw [show 3 * (c / 3) + c % 3 = c by omega] at es
    rw [pd_cl es (by omega)]
    refine ⟨Or.inr ⟨c / 3, c % 3, h2, ?_, ?_⟩, hs⟩
    · rw [pd_cl em (by omega)]; exact h3
    · rw [show 3 * (c / 3) + c % 3 = c by omega]; exact es
  · rw [if_neg (by omega)]
    obtain ⟨_, ⟨s, hs, es⟩, _⟩ := wB _ h2
    rw [pd_cl es (by omega)]
    exact ⟨Or.inl ⟨_, h2, es⟩, hs⟩
theorem pd_ag_sc {D E : pd_D} {made blocks c : Nat} (w : pd_wf D made blocks) (a : pd_ag D E made blocks) (h : pd_coin D made blocks c) : pd_sc E c = pd_sc D c := by
  obtain ⟨aT, aB, aS⟩ := a
  unfold pd_sc
  rcases h with ⟨h1, h2, h3⟩ | ⟨h1, h2⟩
  · rw [if_pos h1, if_pos h1]
    have := ((aT _ h2).2.2.2.2 _ h3).2
    rw [show 3 * (c / 3) + c % 3 = c by omega] at this
    rw [this]
  · rw [if_neg (by omega), if_neg (by omega), (aB _ h2).2.1]
theorem pd_ag_fit {D E : pd_D} {made blocks c : Nat} {A B h g : Int32} (w : pd_wf D made blocks) (a : pd_ag D E made blocks) (hc : c < 152) (hq : pd_coin D made blocks c) : pd_fit E c A B h g ↔ pd_fit D c A B h g := by
  unfold pd_fit
  rw [pd_ag_sc w a hq]
  obtain ⟨e, H⟩ := a.2.2 _ (pd_used_sc w hc hq).1
  exact fx_fits_op e H
theorem pd_ag_tx {D E : pd_D} {t : Nat} {h : Int32} {S : pd_S} (a : pd_agT D E t) : pd_layTx E t h S = pd_layTx D t h S := by
  obtain ⟨e1, e2, _, e3, _⟩ := a
  unfold pd_layTx
  rw [e1, e2, pd_spend_eq _ fun i hi => (e3 i hi).1]
theorem pd_wf_co {D : pd_D} {made blocks t i : Nat} (w : pd_wf D made blocks) (ht : t < made) (hi : i < (pd_ic D t).toNatClampNeg) : ∃ c, c < 152 ∧ pd_co D (3 * t + i) = nI c ∧ (pd_co D (3 * t + i)).toNatClampNeg = c ∧ pd_coin D t blocks c := by
  obtain ⟨n, m, _, hn, _, hm, en, em, hc, _, ho⟩ := w.2.2.2.2.1 _ ht
  rw [pd_cl en (by omega)] at hi
  obtain ⟨c, h1, h2, h3⟩ := hc i hi
  exact ⟨c, h1, h2, pd_cl h2 (by omega), h3⟩
theorem pd_ag_okTx {D E : pd_D} {made blocks t : Nat} {h : Int32} {S : pd_S} (w : pd_wf D made blocks) (a : pd_ag D E made blocks) (ht : t < made) (hS : ∀ c, c < 152 → 0 ≤ S.1 c → pd_coin D made blocks c) : pd_okTx E S t h ↔ pd_okTx D S t h := by
  obtain ⟨e1, e2, e3, e4, e5⟩ := a.1 _ ht
  unfold pd_okTx
  rw [e1, e3]
  refine and_congr Iff.rfl (and_congr (forall_congr' fun i => ?_) Iff.rfl)
  refine imp_congr_right fun hi => ?_
  obtain ⟨c, hc, _, ec, _⟩ := pd_wf_co w ht hi
  obtain ⟨q1, q2, q3⟩ := e4 i hi
  unfold pd_okIn
  rw [q1, q2, q3, ec]
  refine and_congr_right fun h0 => and_congr Iff.rfl (and_congr Iff.rfl ?_)
  exact pd_ag_fit w a hc (hS c hc h0)
theorem pd_bt_of {D : pd_D} {made blocks b i : Nat} (w : pd_wf D made blocks) (hb : b < blocks) (hi : i < (pd_bs D b).toNatClampNeg) : ∃ t, t < made ∧ pd_bt D (4 * b + i) = nI t ∧ (pd_bt D (4 * b + i)).toNatClampNeg = t := by
  obtain ⟨_, _, ⟨n, hn, en, ht⟩, _⟩ := w.2.2.2.2.2 _ hb
  rw [pd_cl en (by omega)] at hi
  obtain ⟨t, h1, h2⟩ := ht i hi
  have := w.2.2.1
  exact ⟨t, h1, h2, pd_cl h2 (by omega)⟩
theorem pd_inv_tx {D : pd_D} {made blocks t : Nat} {h : Int32} {S : pd_S} (w : pd_wf D made blocks) (ht : t < made) (hh : 0 ≤ h) (I : pd_inv D made blocks S) : pd_inv D made blocks (pd_layTx D t h S) := by
  obtain ⟨i1, i2, i3, i4, i5, i6⟩ := I
  have hm := w.2.2.1
  obtain ⟨n, m, _, hn, _, hm3, en, em, hc, _, ho⟩ := w.2.2.2.2.1 _ ht
  have emc := pd_cl em (by omega)
  refine ⟨fun c h1 => ?_, fun c h1 => ?_, fun q h1 => ?_, fun c h1 h2 => ?_, fun c h1 h2 => ?_, fun q h1 h2 => ?_⟩
  · show pd_setH _ _ _ _ c = 0
    rw [pd_setH_no (by omega)]; exact i1 c h1
  · show pd_spend _ _ _ _ c = 0
    rw [pd_spend_no, i2 c h1]
    intro i hi e
    obtain ⟨c', h3, _, ec, _⟩ := pd_wf_co w ht hi
    omega
  · show upd _ _ _ q = 0
    rw [pk_un (by omega)]; exact i3 q h1
  · by_cases q : 3 * t ≤ c ∧ c < 3 * t + (pd_oc D t).toNatClampNeg
    · have : c / 3 = t := by omega
      left; rw [this]; exact ⟨by omega, ht, by omega⟩
    · have h2' : 0 ≤ pd_setH S.1 (3 * t) (pd_oc D t).toNatClampNeg h c := h2
      rw [pd_setH_no q] at h2'; exact i4 c h1 h2'
  · show 0 ≤ upd S.2.2 t h (c / 3)
    by_cases q : c / 3 = t
    · rw [q, pk_us]; exact hh
    · rw [pk_un q]
      have h2' : 0 ≤ pd_setH S.1 (3 * t) (pd_oc D t).toNatClampNeg h c := h2
      rw [pd_setH_no (by omega)] at h2'; exact i5 c h1 h2'
  · by_cases e : q = t
    · omega
    · have h1' : 0 ≤ upd S.2.2 t h q := h1
      rw [pk_un e] at h1'; exact i6 q h1' h2
theorem pd_inv_txs {D : pd_D} {made blocks b : Nat} {h : Int32} {S : pd_S} (w : pd_wf D made blocks) (hb : b < blocks) (hh : 0 ≤ h) (I : pd_inv D made blocks S) : ∀ n, n ≤ (pd_bs D b).toNatClampNeg → pd_inv D made blocks (pd_txs D b h n S) := by
  intro n
  induction n with
  | zero => intro _; exact I
  | succ n ih =>
    intro hn
    obtain ⟨t, h1, h2, h3⟩ := pd_bt_of w hb (i := n) (by omega)
    rw [pd_txs, h3]
    exact pd_inv_tx w h1 hh (ih (by omega))
theorem pd_he_of {D : pd_D} {made blocks b : Nat} (w : pd_wf D made blocks) (hb : b < blocks) : ∃ n, n ≤ b ∧ n < 32 ∧ pd_he D b = nI n := by
  obtain ⟨⟨n, h1, h2⟩, _⟩ := w.2.2.2.2.2 _ hb
  have := w.2.1
  exact ⟨n, h1, by omega, h2⟩
theorem pd_par {D : pd_D} {made blocks b n : Nat} (w : pd_wf D made blocks) (hb : b < blocks) (he : pd_he D b = nI (n + 1)) (hn : n + 1 < 2 ^ 31) : ∃ p, p < b ∧ pd_pa D b = nI p ∧ (pd_pa D b).toNatClampNeg = p ∧ pd_he D p = nI n := by
  obtain ⟨⟨h, hle, eh⟩, _, _, hp⟩ := w.2.2.2.2.2 _ hb
  have := w.2.1
  rw [eh, nI_eq (by omega) (by omega)] at he
  obtain ⟨p, h1, h2, h3⟩ := hp (by omega)
  obtain ⟨q, h4, h5, h6⟩ := pd_he_of w (b := p) (by omega)
  rw [eh, h6, nI_1, nI_eq (by omega) (by omega)] at h3
  exact ⟨p, h1, h2, pd_cl h2 (by omega), by rw [h6]; exact congrArg nI (by omega)⟩
theorem pd_par0 {D : pd_D} {made blocks b : Nat} (w : pd_wf D made blocks) (hb : b < blocks) (he : pd_he D b = nI 0) : b = 0 := by
  obtain ⟨⟨h, hle, eh⟩, _, _, hp⟩ := w.2.2.2.2.2 _ hb
  have := w.2.1
  rcases Nat.eq_zero_or_pos b with e | e
  · exact e
  · obtain ⟨p, h1, h2, h3⟩ := hp e
    obtain ⟨q, h4, h5, h6⟩ := pd_he_of w (b := p) (by omega)
    rw [he, h6, nI_1, nI_eq (by omega) (by omega)] at h3
    omega
theorem pd_inv_blk {D : pd_D} {made blocks b : Nat} {S : pd_S} (w : pd_wf D made blocks) (hb : b < blocks) (I : pd_inv D made blocks S) : pd_inv D made blocks (pd_blk D b S) := by
  obtain ⟨n, _, h2, h3⟩ := pd_he_of w hb
  have hh : 0 ≤ pd_he D b := by rw [h3]; exact nI_pos' (by omega)
  obtain ⟨i1, i2, i3, i4, i5, i6⟩ := pd_inv_txs w hb hh I _ (Nat.le_refl _)
  have := w.2.1
  refine ⟨fun c h1 => ?_, i2, i3, fun c h1 h2 => ?_, fun c h1 h2 => ?_, i6⟩
  · show upd _ _ _ c = 0
    rw [pk_un (by omega)]; exact i1 c h1
  · by_cases e : c = 120 + b
    · exact Or.inr (by omega)
    · have h2' : 0 ≤ upd (pd_txs D b (pd_he D b) (pd_bs D b).toNatClampNeg S).1 (120 + b) (pd_he D b) c := h2
      rw [pk_un e] at h2'; exact i4 c h1 h2'
  · have h2' : 0 ≤ upd (pd_txs D b (pd_he D b) (pd_bs D b).toNatClampNeg S).1 (120 + b) (pd_he D b) c := h2
    rw [pk_un (by omega)] at h2'; exact i5 c h1 h2'
theorem pd_inv_0 (D : pd_D) (made blocks : Nat) : pd_inv D made blocks pd_S0 := by
  refine ⟨fun c h => if_neg (by omega), fun c h => rfl, fun t h => if_neg (by omega), fun c h1 h2 => ?_, fun c h1 h2 => ?_, fun t h1 h2 => ?_⟩
  · have h2' : (0 : Int32) ≤ if c < 152 then -1 else 0 := h2
    rw [if_pos h1] at h2'; exact (pd_m1 h2').elim
  · have h2' : (0 : Int32) ≤ if c < 152 then -1 else 0 := h2
    rw [if_pos (by omega)] at h2'; exact (pd_m1 h2').elim
  · have h2' : (0 : Int32) ≤ if t < 40 then -1 else 0 := h1
    rw [if_pos h2] at h2'; exact (pd_m1 h2').elim
theorem pd_inv_lay {D : pd_D} {made blocks : Nat} (w : pd_wf D made blocks) : ∀ n b, b < blocks → pd_he D b = nI n → n < 32 → pd_inv D made blocks (pd_lay D n b) := by
  intro n
  induction n with
  | zero => intro b hb _ _; exact pd_inv_blk w hb (pd_inv_0 D made blocks)
  | succ n ih =>
    intro b hb he hn
    obtain ⟨p, h1, h2, h3, h4⟩ := pd_par w hb he (by omega)
    rw [pd_lay, h3]
    exact pd_inv_blk w hb (ih p (by omega) h4 (by omega))
theorem pd_ag_txs {D E : pd_D} {made blocks b : Nat} {h : Int32} {S : pd_S} (w : pd_wf D made blocks) (a : pd_ag D E made blocks) (hb : b < blocks) : ∀ n, n ≤ (pd_bs D b).toNatClampNeg → pd_txs E b h n S = pd_txs D b h n S := by
  intro n
  induction n with
  | zero => intro _; rfl
  | succ n ih =>
    intro hn
    obtain ⟨t, h1, h2, h3⟩ := pd_bt_of w hb (i := n) (by omega)
    rw [pd_txs, pd_txs, (a.2.1 _ hb).2.2.2.2.2 n (by omega), h3, ih (by omega), pd_ag_tx (a.1 _ h1)]
theorem pd_ag_okTxs {D E : pd_D} {made blocks b : Nat} {h : Int32} {S : pd_S} (w : pd_wf D made blocks) (a : pd_ag D E made blocks) (hb : b < blocks) (hh : 0 ≤ h) (I : pd_inv D made blocks S) : ∀ n, n ≤ (pd_bs D b).toNatClampNeg → (pd_okTxs E b h n S ↔ pd_okTxs D b h n S) := by
  intro n
  induction n with
  | zero => intro _; exact Iff.rfl
  | succ n ih =>
    intro hn
    obtain ⟨t, h1, h2, h3⟩ := pd_bt_of w hb (i := n) (by omega)
    rw [pd_okTxs, pd_okTxs, (a.2.1 _ hb).2.2.2.2.2 n (by omega), h3, ih (by omega), pd_ag_txs w a hb n (by omega), pd_ag_okTx w a h1 (pd_inv_txs w hb hh I n (by omega)).2.2.2.1]
theorem pd_ag_blk {D E : pd_D} {made blocks b : Nat} {S : pd_S} (w : pd_wf D made blocks) (a : pd_ag D E made blocks) (hb : b < blocks) : pd_blk E b S = pd_blk D b S := by
  obtain ⟨e1, _, e3, _⟩ := a.2.1 _ hb
  unfold pd_blk
  rw [e1, e3, pd_ag_txs w a hb _ (Nat.le_refl _)]
theorem pd_ag_lay {D E : pd_D} {made blocks : Nat} (w : pd_wf D made blocks) (a : pd_ag D E made blocks) : ∀ n b, b < blocks → pd_he D b = nI n → n < 32 → pd_lay E n b = pd_lay D n b := by
  intro n
  induction n with
  | zero => intro b hb _ _; exact pd_ag_blk w a hb
  | succ n ih =>
    intro b hb he hn
    obtain ⟨p, h1, h2, h3, h4⟩ := pd_par w hb he (by omega)
    rw [pd_lay, pd_lay, (a.2.1 _ hb).2.2.2.2.1 (by omega), h3, ih p (by omega) h4 (by omega), pd_ag_blk w a hb]
theorem pd_ag_valid {D E : pd_D} {made blocks : Nat} (w : pd_wf D made blocks) (a : pd_ag D E made blocks) : ∀ n b, b < blocks → pd_he D b = nI n → n < 32 → (pd_valid E n b ↔ pd_valid D n b) := by
  intro n
  induction n with
  | zero => intro b hb _ _; exact Iff.rfl
  | succ n ih =>
    intro b hb he hn
    obtain ⟨p, h1, h2, h3, h4⟩ := pd_par w hb he (by omega)
    obtain ⟨e1, _, e3, _, e5, _⟩ := a.2.1 _ hb
    rw [pd_valid, pd_valid, e5 (by omega), h3, e1, e3, ih p (by omega) h4 (by omega), pd_ag_lay w a n p (by omega) h4 (by omega),
      pd_ag_okTxs w a hb (by rw [he]; exact nI_pos' (by omega)) (pd_inv_lay w n p (by omega) h4 (by omega)) _ (Nat.le_refl _)]
theorem pd_ag_anc {D E : pd_D} {made blocks b : Nat} (w : pd_wf D made blocks) (a : pd_ag D E made blocks) (hb : b < blocks) {n : Nat} (he : pd_he D b = nI n) (hn : n < 32) : ∀ k, k ≤ n → pd_anc E b k = pd_anc D b k ∧ pd_anc D b k < blocks ∧ pd_he D (pd_anc D b k) = nI (n - k) := by
  intro k
  induction k with
  | zero => intro _; exact ⟨rfl, hb, he⟩
  | succ k ih =>
    intro hk
    obtain ⟨e, h1, h2⟩ := ih (by omega)
    obtain ⟨p, q1, q2, q3, q4⟩ := pd_par w h1 (n := n - k - 1) (by rw [h2]; exact congrArg nI (by omega)) (by omega)
    rw [pd_anc, pd_anc, e, (a.2.1 _ h1).2.2.2.2.1 (by omega), q3]
    exact ⟨rfl, by omega, by rw [q4]; exact congrArg nI (by omega)⟩
theorem pd_ag_refl (D : pd_D) (made blocks : Nat) : pd_ag D D made blocks :=
  ⟨fun _ _ => ⟨rfl, rfl, rfl, fun _ _ => ⟨rfl, rfl, rfl⟩, fun _ _ => ⟨rfl, rfl⟩⟩, fun _ _ => ⟨rfl, rfl, rfl, rfl, fun _ => rfl, fun _ _ => rfl⟩, fun _ _ => ⟨rfl, fun _ _ => ⟨rfl, rfl⟩⟩⟩
theorem pd_anc_of {D : pd_D} {made blocks b : Nat} (w : pd_wf D made blocks) (hb : b < blocks) {n : Nat} (he : pd_he D b = nI n) (hn : n < 32) : ∀ k, k ≤ n → pd_anc D b k < blocks ∧ pd_he D (pd_anc D b k) = nI (n - k) :=
  fun k hk => (pd_ag_anc w (pd_ag_refl D made blocks) hb he hn k hk).2

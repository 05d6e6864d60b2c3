section
/-! ===== rows of the kit's pure rows and bits, pasted ===== -/
theorem pk_us {f : Nat → Int32} {k : Nat} {x : Int32} : upd f k x k = x := if_pos rfl
theorem pk_un {f : Nat → Int32} {k j : Nat} {x : Int32} (h : j ≠ k) : upd f k x j = f j := if_neg h
theorem pk_sub {a b : Nat} (h : b ≤ a) : nI a - nI b = nI (a - b) := by
  obtain ⟨c, rfl⟩ : ∃ c, a = c + b := ⟨a - b, by omega⟩
  rw [← nI_add, Int32.add_sub_cancel, Nat.add_sub_cancel]
theorem pk_mul (a b : Nat) : nI a * nI b = nI (a * b) := (Int32.ofNat_mul a b).symm
theorem pk_le {x y : Int32} {A B : Prop} (a b : Nat) (f : a ≤ b → A) (g : b < a → B) (hx : x = nI a := by rfl) (hy : y = nI b := by rfl) (ha : a < 2 ^ 31 := by omega) (hb : b < 2 ^ 31 := by omega) : (x ≤ y → A) ∧ (¬ x ≤ y → B) := by
  subst hx hy
  rw [nI_leI ha hb]
  exact ⟨f, fun z => g (by omega)⟩
theorem pk_lt {x y : Int32} {A B : Prop} (a b : Nat) (f : a < b → A) (g : b ≤ a → B) (hx : x = nI a := by rfl) (hy : y = nI b := by rfl) (ha : a < 2 ^ 31 := by omega) (hb : b < 2 ^ 31 := by omega) : (x < y → A) ∧ (¬ x < y → B) := by
  subst hx hy
  rw [nI_ltI ha hb]
  exact ⟨f, fun z => g (by omega)⟩
theorem pk_eq {x y : Int32} {A B : Prop} (a b : Nat) (f : a = b → A) (g : a ≠ b → B) (hx : x = nI a := by rfl) (hy : y = nI b := by rfl) (ha : a < 2 ^ 31 := by omega) (hb : b < 2 ^ 31 := by omega) : (x = y → A) ∧ (¬ x = y → B) := by
  subst hx hy
  rw [nI_eq ha hb]
  exact ⟨f, g⟩
theorem pk_in {x : Int32} (n N : Nat) (h : n < N) (hx : x = nI n := by rfl) (hN : N < 2 ^ 31 := by omega) : vp_in x N := by
  subst hx
  exact vp_in_nI h hN
theorem pk_cl {x : Int32} (n : Nat) (hx : x = nI n := by rfl) (h : n < 2 ^ 31 := by omega) : x.toNatClampNeg = n := by
  subst hx
  exact nI_clamp h
def bt (x : Int32) (i : Nat) : Bool := x.toBitVec.getLsbD i
theorem b_ext {x y : Int32} (h : ∀ i, i < 32 → bt x i = bt y i) : x = y := Int32.toBitVec_inj.mp (BitVec.eq_of_getLsbD_eq (fun i hi => h i hi))
theorem b_or (x y : Int32) (i : Nat) : bt (x ||| y) i = (bt x i || bt y i) := by unfold bt; rw [Int32.toBitVec_or, BitVec.getLsbD_or]
theorem b_and (x y : Int32) (i : Nat) : bt (x &&& y) i = (bt x i && bt y i) := by unfold bt; rw [Int32.toBitVec_and, BitVec.getLsbD_and]
theorem b_xor (x y : Int32) (i : Nat) : bt (x ^^^ y) i = (bt x i ^^ bt y i) := by unfold bt; rw [Int32.toBitVec_xor, BitVec.getLsbD_xor]
theorem b_m1 : ∀ i, i < 32 → bt (-1) i = true := by decide +kernel
theorem b_0 (i : Nat) : bt 0 i = false := BitVec.getLsbD_zero
theorem s_l : ∀ n, n < 32 → ((nI n &&& 31).toBitVec.smod 32).toNat = n := by decide +kernel
theorem b_shl (n : Nat) (hn : n < 32) (x : Int32) {i : Nat} (hi : i < 32) : bt (x <<< (nI n &&& 31)) i = (decide (n ≤ i) && bt x (i - n)) := by
  unfold bt
  rw [Int32.toBitVec_shiftLeft]
  show (x.toBitVec <<< ((nI n &&& 31).toBitVec.smod 32).toNat).getLsbD i = _
  rw [s_l n hn, BitVec.getLsbD_shiftLeft]
  rcases Nat.lt_or_ge i n with h | h
  · simp [h, Nat.not_le.mpr h]
  · simp [hi, h, Nat.not_lt.mpr h]
theorem b_sshr (n : Nat) (hn : n < 32) (x : Int32) {i : Nat} (hi : i < 32) : bt (x >>> (nI n &&& 31)) i = if n + i < 32 then bt x (n + i) else bt x 31 := by
  unfold bt
  rw [Int32.toBitVec_shiftRight]
  show (x.toBitVec.sshiftRight ((nI n &&& 31).toBitVec.smod 32).toNat).getLsbD i = _
  rw [s_l n hn, BitVec.getLsbD_sshiftRight, BitVec.msb_eq_getLsbD_last]
  simp [hi]
/-! ===== bits of a set ===== -/
theorem mh_1 : ∀ i, i < 32 → bt 1 i = decide (i = 0) := by decide +kernel
theorem mh_bit (s : Int32) {r : Nat} (hr : r < 8) : ((s >>> (nI r &&& 31)) &&& 1) = if bt s r = true then 1 else 0 := by
  apply b_ext
  intro i hi
  rw [b_and, b_sshr r (by omega) s hi, mh_1 i hi]
  by_cases h : i = 0
  · subst h
    rw [if_pos (by omega), Nat.add_zero]
    cases hb : bt s r
    · rfl
    · rfl
  · rw [decide_eq_false h, Bool.and_false]
    cases hb : bt s r
    · exact (b_0 i).symm
    · exact ((mh_1 i hi).trans (decide_eq_false h)).symm
theorem mh_bt {s : Int32} {r : Nat} (hr : r < 8) (h : bt s r = true) : ((s >>> (nI r &&& 31)) &&& 1) = 1 := by
  rw [mh_bit s hr, if_pos h]
theorem mh_bf0 {s : Int32} {r : Nat} (hr : r < 8) (h : bt s r = false) : ((s >>> (nI r &&& 31)) &&& 1) = 0 := by
  rw [mh_bit s hr, if_neg (by rw [h]; exact Bool.false_ne_true)]
theorem mh_bf {s : Int32} {r : Nat} (hr : r < 8) (h : bt s r = false) : ¬ ((s >>> (nI r &&& 31)) &&& 1) = 1 := by
  rw [mh_bf0 hr h]
  decide
theorem mh_set (s : Int32) {r q : Nat} (hr : r < 8) (hq : q < 8) : bt (s ||| ((1 : Int32) <<< (nI r &&& 31))) q = (bt s q || decide (q = r)) := by
  rw [b_or, b_shl r (by omega) 1 (by omega), mh_1 (q - r) (by omega)]
  congr 1
  by_cases h : r ≤ q
  · by_cases e : q = r
    · rw [decide_eq_true h, decide_eq_true e, decide_eq_true (by omega)]; rfl
    · rw [decide_eq_true h, decide_eq_false e, decide_eq_false (by omega)]; rfl
  · rw [decide_eq_false h, decide_eq_false (show ¬ q = r by omega)]; rfl
theorem mh_clr (s : Int32) {r q : Nat} (hr : r < 8) (hq : q < 8) : bt (s &&& (((1 : Int32) <<< (nI r &&& 31)) ^^^ (-1))) q = (bt s q && !decide (q = r)) := by
  rw [b_and, b_xor, b_m1 q (by omega), b_shl r (by omega) 1 (by omega), mh_1 (q - r) (by omega)]
  congr 1
  by_cases h : r ≤ q
  · by_cases e : q = r
    · rw [decide_eq_true h, decide_eq_true e, decide_eq_true (by omega)]; rfl
    · rw [decide_eq_true h, decide_eq_false e, decide_eq_false (by omega)]; rfl
  · rw [decide_eq_false h, decide_eq_false (show ¬ q = r by omega)]; rfl
theorem mh_mix (c s x : Int32) {q : Nat} (hq : q < 8) : bt ((c &&& (x ^^^ (-1))) ||| (s &&& x)) q = if bt x q = true then bt s q else bt c q := by
  rw [b_or, b_and, b_and, b_xor, b_m1 q (by omega)]
  cases bt x q <;> cases bt s q <;> cases bt c q <;> rfl
/-! ===== indices ===== -/
theorem mh_ix (t i : Nat) : nI t * 8 + nI i = nI (8 * t + i) := by
  rw [show (8 : Int32) = nI 8 from rfl, pk_mul, nI_add, Nat.mul_comm]
theorem mh_iy (t i : Nat) : 8 * nI t + nI i = nI (8 * t + i) := by
  rw [show (8 : Int32) = nI 8 from rfl, pk_mul, nI_add]
theorem mh_i3 (t i : Nat) : nI t * 3 + nI i = nI (3 * t + i) := by
  rw [show (3 : Int32) = nI 3 from rfl, pk_mul, nI_add, Nat.mul_comm]
theorem mh_i5 (t i : Nat) : 5 + 3 * nI t + nI i = nI (5 + (3 * t + i)) := by
  rw [show (3 : Int32) = nI 3 from rfl, show (5 : Int32) = nI 5 from rfl, pk_mul, nI_add, nI_add, Nat.add_assoc]
theorem mh_32 (i : Nat) : 32 + nI i = nI (32 + i) := by
  rw [show (32 : Int32) = nI 32 from rfl, nI_add]
theorem mh_n0 : vp_nar .boolean 0 = 0 := by decide
theorem mh_n1 : vp_nar .boolean 1 = 1 := by decide
theorem mh_lt {x : Int32} {M : Int32} {n : Nat} (hM : M = nI n) (hn : n < 2 ^ 31) (h0 : ¬ x < 0) (h : ¬ M ≤ x) : ∃ j : Nat, j < n ∧ x = nI j := by
  subst hM
  obtain ⟨j, hj, rfl⟩ := nI_of h0
  exact ⟨j, by rw [nI_leI hn hj] at h; omega, rfl⟩
theorem mh_g4 {t : Nat} (h : t < 4) : ¬ (4 : Int32) ≤ nI t := nI_ge (b := 4) h (by decide)
theorem mh_g8 {t : Nat} (h : t < 8) : ¬ (8 : Int32) ≤ nI t := nI_ge (b := 8) h (by decide)
theorem mh_e4 : (4 : Int32) ≤ nI 4 := by decide
theorem mh_e8 : (8 : Int32) ≤ nI 8 := by decide
/-! ===== an array filled from a base under a mask ===== -/
def mh_fl (f : Nat → Int32) (b : Nat) (g : Nat → Int32) (m : Nat → Bool) (n : Nat) : Nat → Int32 := fun j => if b ≤ j ∧ j < b + n ∧ m (j - b) = true then g (j - b) else f j
def mh_T : Nat → Bool := fun _ => true
theorem mh_fl0 (f : Nat → Int32) (b : Nat) (g : Nat → Int32) (m : Nat → Bool) : mh_fl f b g m 0 = f := by
  funext j
  exact if_neg (by omega)
theorem mh_flN {f : Nat → Int32} {b : Nat} {g : Nat → Int32} {m : Nat → Bool} {n : Nat} (h : m n = false ∨ g n = f (b + n)) : mh_fl f b g m n = mh_fl f b g m (n + 1) := by
  funext j
  unfold mh_fl
  by_cases e : j = b + n
  · subst e
    rw [if_neg (by omega), Nat.add_sub_cancel_left]
    rcases h with h | h
    · rw [if_neg (by rw [h]; exact fun z => Bool.false_ne_true z.2.2)]
    · rw [h]
      split <;> rfl
  · by_cases d : b ≤ j ∧ j < b + n ∧ m (j - b) = true
    · rw [if_pos d, if_pos ⟨d.1, by omega, d.2.2⟩]
    · rw [if_neg d, if_neg (fun z => d ⟨z.1, by omega, z.2.2⟩)]
theorem mh_flS {f : Nat → Int32} {b : Nat} {g : Nat → Int32} {m : Nat → Bool} {n : Nat} (h : m n = true) : upd (mh_fl f b g m n) (b + n) (g n) = mh_fl f b g m (n + 1) := by
  funext j
  by_cases e : j = b + n
  · subst e
    rw [pk_us]
    unfold mh_fl
    rw [if_pos ⟨by omega, by omega, by rw [Nat.add_sub_cancel_left]; exact h⟩, Nat.add_sub_cancel_left]
  · rw [pk_un e]
    unfold mh_fl
    by_cases d : b ≤ j ∧ j < b + n ∧ m (j - b) = true
    · rw [if_pos d, if_pos ⟨d.1, by omega, d.2.2⟩]
    · rw [if_neg d, if_neg (fun z => d ⟨z.1, by omega, z.2.2⟩)]
theorem mh_fli {f : Nat → Int32} {b : Nat} {g : Nat → Int32} {m : Nat → Bool} {n r : Nat} (hr : r < n) : mh_fl f b g m n (b + r) = if m r = true then g r else f (b + r) := by
  unfold mh_fl
  rw [Nat.add_sub_cancel_left]
  by_cases h : m r = true
  · rw [if_pos ⟨by omega, by omega, h⟩, if_pos h]
  · rw [if_neg (fun z => h z.2.2), if_neg h]
theorem mh_flo {f : Nat → Int32} {b : Nat} {g : Nat → Int32} {m : Nat → Bool} {n j : Nat} (h : j < b ∨ b + n ≤ j) : mh_fl f b g m n j = f j := if_neg (by omega)
theorem mh_flT {f : Nat → Int32} {b : Nat} {g : Nat → Int32} {n r : Nat} (hr : r < n) : mh_fl f b g mh_T n (b + r) = g r := by
  rw [mh_fli hr]
  exact if_pos rfl
/-! ===== pure answers ===== -/
def mh_ct (m : Nat → Bool) : Nat → Int32
  | 0 => 0
  | n + 1 => if m n = true then mh_ct m n + 1 else mh_ct m n
theorem mh_ctc {m m' : Nat → Bool} : ∀ {n : Nat}, (∀ r, r < n → m r = m' r) → mh_ct m n = mh_ct m' n
  | 0, _ => rfl
  | n + 1, h => by
    unfold mh_ct
    rw [h n (by omega), mh_ctc (n := n) (fun r hr => h r (by omega))]
def mh_sm (g : Nat → Int32) : Nat → Int32
  | 0 => 0
  | n + 1 => mh_sm g n + g n
theorem mh_smc {g g' : Nat → Int32} : ∀ {n : Nat}, (∀ r, r < n → g r = g' r) → mh_sm g n = mh_sm g' n
  | 0, _ => rfl
  | n + 1, h => by
    unfold mh_sm
    rw [h n (by omega), mh_smc (n := n) (fun r hr => h r (by omega))]
def mh_fd (m : Nat → Bool) (g : Nat → Int32) (fr v : Int32) : Nat → Nat → Int32
  | 0, _ => -3
  | d + 1, i => if nI i < fr then mh_fd m g fr v d (i + 1) else if m i = true then (if g i < v then mh_fd m g fr v d (i + 1) else nI i) else mh_fd m g fr v d (i + 1)
def mh_cf (op ch sl : Nat → Int32) (t r : Nat) : Nat → Nat → Int32
  | 0, _ => if bt (sl t) r = true then -5 else 0
  | d + 1, i => if i = t then mh_cf op ch sl t r d (i + 1) else if op i = 0 then mh_cf op ch sl t r d (i + 1) else if bt (ch i) r = true then -4 else mh_cf op ch sl t r d (i + 1)
def mh_tr (op : Nat → Int32) (p : Int32) : Int32 := if p < 0 then -1 else if 4 ≤ p then -1 else if op p.toNatClampNeg = 0 then -2 else 0
theorem mh_tr0 {op : Nat → Int32} {p : Int32} (h : mh_tr op p = 0) : ∃ t : Nat, t < 4 ∧ p = nI t ∧ ¬ op t = 0 := by
  unfold mh_tr at h
  by_cases h0 : p < 0
  · rw [if_pos h0] at h; exact absurd h (by decide)
  · rw [if_neg h0] at h
    by_cases h4 : 4 ≤ p
    · rw [if_pos h4] at h; exact absurd h (by decide)
    · rw [if_neg h4] at h
      obtain ⟨t, ht, rfl⟩ := mh_lt (n := 4) rfl (by omega) h0 h4
      rw [nI_clamp (by omega)] at h
      by_cases ho : op t = 0
      · rw [if_pos ho] at h; exact absurd h (by decide)
      · exact ⟨t, ht, rfl, ho⟩
theorem mh_tr2 {op : Nat → Int32} {p : Int32} (h : mh_tr op p = -2) : ∃ t : Nat, t < 4 ∧ p = nI t ∧ op t = 0 := by
  unfold mh_tr at h
  by_cases h0 : p < 0
  · rw [if_pos h0] at h; exact absurd h (by decide)
  · rw [if_neg h0] at h
    by_cases h4 : 4 ≤ p
    · rw [if_pos h4] at h; exact absurd h (by decide)
    · rw [if_neg h4] at h
      obtain ⟨t, ht, rfl⟩ := mh_lt (n := 4) rfl (by omega) h0 h4
      rw [nI_clamp (by omega)] at h
      by_cases ho : op t = 0
      · exact ⟨t, ht, rfl, ho⟩
      · rw [if_neg ho] at h; exact absurd h (by decide)
theorem mh_tri {op : Nat → Int32} {t : Nat} (ht : t < 4) : mh_tr op (nI t) = if op t = 0 then -2 else 0 := by
  unfold mh_tr
  rw [if_neg (nI_pos (by omega)), if_neg (mh_g4 ht), nI_clamp (by omega)]
theorem mh_trk {op : Nat → Int32} {t : Nat} (ht : t < 4) (ho : ¬ op t = 0) : mh_tr op (nI t) = 0 := by
  rw [mh_tri ht, if_neg ho]
def mh_rr (op : Nat → Int32) (p q : Int32) : Int32 := if mh_tr op p = 0 then (if q < 0 then -1 else if 8 ≤ q then -1 else 0) else mh_tr op p
theorem mh_rr0 {op : Nat → Int32} {p q : Int32} (h : mh_rr op p q = 0) : ∃ t r : Nat, t < 4 ∧ r < 8 ∧ p = nI t ∧ q = nI r ∧ ¬ op t = 0 := by
  unfold mh_rr at h
  by_cases a : mh_tr op p = 0
  · rw [if_pos a] at h
    obtain ⟨t, ht, rfl, ho⟩ := mh_tr0 a
    by_cases h0 : q < 0
    · rw [if_pos h0] at h; exact absurd h (by decide)
    · rw [if_neg h0] at h
      by_cases h8 : 8 ≤ q
      · rw [if_pos h8] at h; exact absurd h (by decide)
      · obtain ⟨r, hr, rfl⟩ := mh_lt (n := 8) rfl (by omega) h0 h8
        exact ⟨t, r, ht, hr, rfl, rfl, ho⟩
  · rw [if_neg a] at h; exact absurd h a
theorem mh_rrk {op : Nat → Int32} {t r : Nat} (ht : t < 4) (hr : r < 8) (ho : ¬ op t = 0) : mh_rr op (nI t) (nI r) = 0 := by
  unfold mh_rr
  rw [if_pos (mh_trk ht ho), if_neg (nI_pos (by omega)), if_neg (mh_g8 hr)]
theorem mh_ctt {m : Nat → Bool} {n : Nat} (h : m n = true) : mh_ct m (n + 1) = mh_ct m n + 1 := if_pos h
theorem mh_ctf {m : Nat → Bool} {n : Nat} (h : m n = false) : mh_ct m (n + 1) = mh_ct m n := if_neg (by rw [h]; exact Bool.false_ne_true)
theorem mh_nt {b : Bool} (h : b = false) : ¬ b = true := by rw [h]; exact Bool.false_ne_true
theorem mh_flS0 {f g : Nat → Int32} {m : Nat → Bool} {n : Nat} (h : m n = true) : upd (mh_fl f 0 g m n) n (g n) = mh_fl f 0 g m (n + 1) := by
  have e := mh_flS (f := f) (b := 0) (g := g) h
  rw [Nat.zero_add] at e
  exact e
theorem mh_tr1 {op : Nat → Int32} {p : Int32} (h : ¬ mh_tr op p = 0) (h2 : ¬ mh_tr op p = -2) : (p < 0 ∨ 4 ≤ p) ∧ mh_tr op p = -1 := by
  unfold mh_tr at *
  by_cases h0 : p < 0
  · rw [if_pos h0]; exact ⟨Or.inl h0, rfl⟩
  · rw [if_neg h0] at *
    by_cases h4 : 4 ≤ p
    · rw [if_pos h4]; exact ⟨Or.inr h4, rfl⟩
    · rw [if_neg h4] at *
      by_cases ho : op p.toNatClampNeg = 0
      · rw [if_pos ho] at h2; exact absurd rfl h2
      · rw [if_neg ho] at h; exact absurd rfl h
/-- the refusal of put: the transaction's, the row's, the conflict's -/
def mh_pf (op ch sl : Nat → Int32) (p q : Int32) : Int32 := if mh_rr op p q = 0 then mh_cf op ch sl p.toNatClampNeg q.toNatClampNeg 4 0 else mh_rr op p q
theorem mh_pfk {op ch sl : Nat → Int32} {t r : Nat} (ht : t < 4) (hr : r < 8) (ho : ¬ op t = 0) : mh_pf op ch sl (nI t) (nI r) = mh_cf op ch sl t r 4 0 := by
  unfold mh_pf
  rw [if_pos (mh_rrk ht hr ho), nI_clamp (by omega), nI_clamp (by omega)]
theorem mh_pf0 {op ch sl : Nat → Int32} {p q : Int32} (h : mh_pf op ch sl p q = 0) : ∃ t r : Nat, t < 4 ∧ r < 8 ∧ p = nI t ∧ q = nI r ∧ ¬ op t = 0 ∧ mh_cf op ch sl t r 4 0 = 0 := by
  by_cases a : mh_rr op p q = 0
  · obtain ⟨t, r, ht, hr, rfl, rfl, ho⟩ := mh_rr0 a
    rw [mh_pfk ht hr ho] at h
    exact ⟨t, r, ht, hr, rfl, rfl, ho, h⟩
  · unfold mh_pf at h
    rw [if_neg a] at h
    exact absurd h a
/-- the refusal of add and drop: the transaction's, the row's, a row that isn't there, the conflict's -/
def mh_ef (op st ch sl : Nat → Int32) (p q : Int32) : Int32 := if mh_rr op p q = 0 then (if bt (st p.toNatClampNeg) q.toNatClampNeg = true then mh_cf op ch sl p.toNatClampNeg q.toNatClampNeg 4 0 else -3) else mh_rr op p q
theorem mh_efk {op st ch sl : Nat → Int32} {t r : Nat} (ht : t < 4) (hr : r < 8) (ho : ¬ op t = 0) : mh_ef op st ch sl (nI t) (nI r) = if bt (st t) r = true then mh_cf op ch sl t r 4 0 else -3 := by
  unfold mh_ef
  rw [if_pos (mh_rrk ht hr ho), nI_clamp (by omega), nI_clamp (by omega)]
theorem mh_ef0 {op st ch sl : Nat → Int32} {p q : Int32} (h : mh_ef op st ch sl p q = 0) : ∃ t r : Nat, t < 4 ∧ r < 8 ∧ p = nI t ∧ q = nI r ∧ ¬ op t = 0 ∧ bt (st t) r = true := by
  by_cases a : mh_rr op p q = 0
  · obtain ⟨t, r, ht, hr, rfl, rfl, ho⟩ := mh_rr0 a
    rw [mh_efk ht hr ho] at h
    by_cases b : bt (st t) r = true
    · exact ⟨t, r, ht, hr, rfl, rfl, ho, b⟩
    · rw [if_neg b] at h; exact absurd h (by decide)
  · unfold mh_ef at h
    rw [if_neg a] at h
    exact absurd h a
end
section
/-! ===== the class's helpers and loops: 'post value → wp post' ===== -/
section
variable {c : Int32} {cv op st sv ch sl sc dt dc dv : Nat → Int32}
theorem mx_tr {post : Int32 → Prop} {p : Int32} (h : post (mh_tr op p)) : wpX_transactionRefusal post (c, cv, op, st, sv, ch, sl, sc, dt, dc, dv) p := by
  unfold wpX_transactionRefusal wpX_isTransaction
  dsimp only
  unfold mh_tr at h
  by_cases h0 : p < 0
  · rw [if_pos h0] at h; exact br_t h0 (br_t rfl h)
  · rw [if_neg h0] at h
    by_cases h4 : 4 ≤ p
    · rw [if_pos h4] at h; exact br_f h0 (br_t h4 (br_t rfl h))
    · rw [if_neg h4] at h
      obtain ⟨t, ht, rfl⟩ := mh_lt (n := 4) rfl (by omega) h0 h4
      refine br_f h0 (br_f h4 (br_f (by decide) ⟨vp_in_nI ht (by decide), ?_⟩))
      by_cases ho : op (nI t).toNatClampNeg = 0
      · rw [if_pos ho] at h; exact br_t ho h
      · rw [if_neg ho] at h; exact br_f ho h
theorem mx_row {post : Int32 → Prop} {q : Int32} (h1 : q < 0 ∨ 8 ≤ q → post 0) (h2 : ∀ r : Nat, r < 8 → q = nI r → post 1) : wpX_isRow post (c, cv, op, st, sv, ch, sl, sc, dt, dc, dv) q := by
  unfold wpX_isRow
  dsimp only
  refine br_c (fun h0 => h1 (Or.inl h0)) (fun h0 => br_c (fun h8 => h1 (Or.inr h8)) (fun h8 => ?_))
  obtain ⟨r, hr, rfl⟩ := mh_lt (n := 8) rfl (by omega) h0 h8
  exact h2 r hr rfl
theorem mx_rr {post : Int32 → Prop} {p q : Int32} (h : post (mh_rr op p q)) : wpX_rowRefusal post (c, cv, op, st, sv, ch, sl, sc, dt, dc, dv) p q := by
  unfold wpX_rowRefusal
  dsimp only
  refine mx_tr ?_
  unfold mh_rr at h
  by_cases a : mh_tr op p = 0
  · rw [if_pos a] at h
    refine br_t a (mx_row (fun z => br_t rfl ?_) (fun r hr e => br_f (by decide) ?_))
    · by_cases h0 : q < 0
      · rw [if_pos h0] at h; exact h
      · rw [if_neg h0, if_pos (z.resolve_left h0)] at h; exact h
    · subst e
      rw [if_neg (nI_pos (by omega)), if_neg (mh_g8 hr)] at h
      exact h
  · rw [if_neg a] at h; exact br_f a h
theorem mx_ct {post : Int32 → Prop} {s : Int32} {r : Nat} (hr : r < 8) (h1 : bt s r = true → post 1) (h0 : bt s r = false → post 0) : wpX_contains post (c, cv, op, st, sv, ch, sl, sc, dt, dc, dv) s (nI r) := by
  unfold wpX_contains
  dsimp only
  cases hb : bt s r
  · exact br_f (mh_bf hr hb) (h0 hb)
  · exact br_t (mh_bt hr hb) (h1 hb)
theorem mx_cfl {post : Int32 → Prop} {t r : Nat} (ht : t < 4) (hr : r < 8) : ∀ d i n : Nat, i + d = 4 → d < n → post (mh_cf op ch sl t r d i) → wX_conflict_2 post (nI t) (nI r) c cv op st sv ch sl sc dt dc dv n (nI i) := by
  intro d
  induction d with
  | zero =>
    intro i n hi hn h
    obtain ⟨n, rfl⟩ : ∃ k, n = k + 1 := ⟨n - 1, by omega⟩
    obtain rfl : i = 4 := by omega
    unfold mh_cf at h
    rw [wX_conflict_2]
    refine br_t mh_e4 ⟨vp_in_nI ht (by decide), ?_⟩
    rw [nI_clamp (by omega)]
    refine mx_ct hr (fun hb => ?_) (fun hb => ?_)
    · rw [if_pos hb] at h; exact br_f (by decide) h
    · rw [if_neg (mh_nt hb)] at h; exact br_t rfl h
  | succ d ih =>
    intro i n hi hn h
    obtain ⟨n, rfl⟩ : ∃ k, n = k + 1 := ⟨n - 1, by omega⟩
    unfold mh_cf at h
    rw [wX_conflict_2]
    refine br_f (mh_g4 (by omega)) ?_
    by_cases e : i = t
    · rw [if_pos e] at h
      exact br_t (by rw [e]) (nm_r (nI_1 i) (ih (i + 1) n (by omega) (by omega) h))
    · rw [if_neg e] at h
      refine br_f (fun z => e ((nI_eq (by omega) (by omega)).mp z)) ⟨vp_in_nI (by omega) (by decide), ?_⟩
      rw [nI_clamp (by omega)]
      by_cases ho : op i = 0
      · rw [if_pos ho] at h
        exact br_t ho (nm_r (nI_1 i) (ih (i + 1) n (by omega) (by omega) h))
      · rw [if_neg ho] at h
        refine br_f ho ⟨vp_in_nI (by omega) (by decide), ?_⟩
        refine mx_ct hr (fun hb => ?_) (fun hb => ?_)
        · rw [if_pos hb] at h; exact br_f (by decide) h
        · rw [if_neg (mh_nt hb)] at h
          exact br_t rfl (nm_r (nI_1 i) (ih (i + 1) n (by omega) (by omega) h))
theorem mx_cf {post : Int32 → Prop} {t r : Nat} (ht : t < 4) (hr : r < 8) (h : post (mh_cf op ch sl t r 4 0)) : wpX_conflict post (c, cv, op, st, sv, ch, sl, sc, dt, dc, dv) (nI t) (nI r) := by
  unfold wpX_conflict
  exact ⟨5, mx_cfl ht hr 4 0 5 (by omega) (by omega) h⟩
theorem mx_szl {post : Int32 → Prop} {s : Int32} (h : post (mh_ct (bt s) 8)) : ∀ d i n : Nat, i + d = 8 → d < n → wX_size_4 post s c cv op st sv ch sl sc dt dc dv n (mh_ct (bt s) i) (nI i) := by
  intro d
  induction d with
  | zero =>
    intro i n hi hn
    obtain ⟨n, rfl⟩ : ∃ k, n = k + 1 := ⟨n - 1, by omega⟩
    obtain rfl : i = 8 := by omega
    exact br_t mh_e8 h
  | succ d ih =>
    intro i n hi hn
    obtain ⟨n, rfl⟩ : ∃ k, n = k + 1 := ⟨n - 1, by omega⟩
    have g := ih (i + 1) n (by omega) (by omega)
    rw [wX_size_4]
    refine br_f (mh_g8 (by omega)) (mx_ct (by omega) (fun hb => ?_) (fun hb => ?_))
    · rw [mh_ctt hb] at g
      exact br_f (by decide) (nm_e (nm_r (nI_1 i) g))
    · rw [mh_ctf hb] at g
      exact br_t rfl (nm_r (nI_1 i) g)
theorem mx_sz {post : Int32 → Prop} {s : Int32} (h : post (mh_ct (bt s) 8)) : wpX_size post (c, cv, op, st, sv, ch, sl, sc, dt, dc, dv) s := by
  unfold wpX_size
  exact ⟨9, mx_szl h 8 0 9 (by omega) (by omega)⟩
theorem mx_pf {post : Int32 → Prop} {p q : Int32} (h : post (mh_pf op ch sl p q)) : wpX_rowRefusal (fun r_1 => (((r_1 = 0 → (wpX_conflict (fun r_37 => post r_37) (c, cv, op, st, sv, ch, sl, sc, dt, dc, dv) p q)) ∧ (¬ r_1 = 0 → post r_1)))) (c, cv, op, st, sv, ch, sl, sc, dt, dc, dv) p q := by
  refine mx_rr ?_
  by_cases a : mh_rr op p q = 0
  · refine br_t a ?_
    obtain ⟨t, r, ht, hr, rfl, rfl, ho⟩ := mh_rr0 a
    rw [mh_pfk ht hr ho] at h
    exact mx_cf ht hr h
  · unfold mh_pf at h
    rw [if_neg a] at h
    exact br_f a h
theorem mx_ef {post : Int32 → Prop} {p q : Int32} (h : post (mh_ef op st ch sl p q)) : wpX_existingRowRefusal post (c, cv, op, st, sv, ch, sl, sc, dt, dc, dv) p q := by
  unfold wpX_existingRowRefusal
  dsimp only
  refine mx_rr ?_
  by_cases a : mh_rr op p q = 0
  · refine br_t a ?_
    obtain ⟨t, r, ht, hr, rfl, rfl, ho⟩ := mh_rr0 a
    rw [mh_efk ht hr ho] at h
    refine ⟨vp_in_nI ht (by decide), ?_⟩
    rw [nI_clamp (by omega)]
    refine mx_ct hr (fun hb => ?_) (fun hb => ?_)
    · rw [if_pos hb] at h; exact br_f (by decide) (mx_cf ht hr h)
    · rw [if_neg (mh_nt hb)] at h; exact br_t rfl h
  · unfold mh_ef at h
    rw [if_neg a] at h
    exact br_f a h
end
end
section
/-! ===== the class's methods: one lemma for the refused call, one for the accepted ===== -/
section
variable {c : Int32} {cv op st sv ch sl sc dt dc dv : Nat → Int32}
/-! open -/
theorem mx_opl {post : Int32 → SX → Prop} {t : Nat} (ht : t < 4) (h : post 0 (c, cv, op, st, mh_fl sv (8 * t) cv mh_T 8, ch, sl, sc, dt, dc, dv)) : ∀ d i n : Nat, i + d = 8 → d < n → wX_open_62 post (nI t) c n (nI i) cv op st (mh_fl sv (8 * t) cv mh_T i) ch sl sc dt dc dv := by
  intro d
  induction d with
  | zero =>
    intro i n hi hn
    obtain ⟨n, rfl⟩ : ∃ k, n = k + 1 := ⟨n - 1, by omega⟩
    obtain rfl : i = 8 := by omega
    exact br_t mh_e8 h
  | succ d ih =>
    intro i n hi hn
    obtain ⟨n, rfl⟩ : ∃ k, n = k + 1 := ⟨n - 1, by omega⟩
    have g := ih (i + 1) n (by omega) (by omega)
    rw [wX_open_62]
    dsimp only
    rw [mh_ix, nI_clamp (n := i) (by omega), nI_clamp (n := 8 * t + i) (by omega), mh_flS rfl]
    exact br_f (mh_g8 (by omega)) ⟨vp_in_nI (by omega) (by decide), vp_in_nI (by omega) (by decide), nm_e (nm_r (nI_1 i) g)⟩
theorem mx_open_b {post : Int32 → SX → Prop} {p : Int32} (h : p < 0 ∨ 4 ≤ p) (hp : post (-1) (c, cv, op, st, sv, ch, sl, sc, dt, dc, dv)) : wpX_open post (c, cv, op, st, sv, ch, sl, sc, dt, dc, dv) p := by
  unfold wpX_open wpX_isTransaction
  dsimp only
  by_cases h0 : p < 0
  · exact br_t h0 (br_t rfl hp)
  · exact br_f h0 (br_t (h.resolve_left h0) (br_t rfl hp))
theorem mx_open_c {post : Int32 → SX → Prop} {t : Nat} (ht : t < 4) (ho : ¬ op t = 0) (hp : post (-2) (c, cv, op, st, sv, ch, sl, sc, dt, dc, dv)) : wpX_open post (c, cv, op, st, sv, ch, sl, sc, dt, dc, dv) (nI t) := by
  unfold wpX_open wpX_isTransaction
  dsimp only
  rw [nI_clamp (by omega)]
  exact br_f (nI_pos (by omega)) (br_f (mh_g4 ht) (br_f (by decide) ⟨vp_in_nI ht (by decide), br_f ho hp⟩))
theorem mx_open_o {post : Int32 → SX → Prop} {t : Nat} (ht : t < 4) (ho : op t = 0) (hp : post 0 (c, cv, upd op t 1, upd st t c, mh_fl sv (8 * t) cv mh_T 8, upd ch t 0, upd sl t 0, upd sc t 0, dt, dc, dv)) : wpX_open post (c, cv, op, st, sv, ch, sl, sc, dt, dc, dv) (nI t) := by
  unfold wpX_open wpX_isTransaction
  dsimp only
  rw [nI_clamp (by omega), mh_n1]
  have hi : vp_in (nI t) 4 := vp_in_nI ht (by decide)
  have g := mx_opl ht hp 8 0 9 (by omega) (by omega)
  rw [mh_fl0] at g
  exact br_f (nI_pos (by omega)) (br_f (mh_g4 ht) (br_f (by decide) ⟨hi, br_t ho ⟨hi, nm_e ⟨hi, nm_e ⟨hi, nm_e ⟨hi, nm_e ⟨hi, nm_e ⟨9, g⟩⟩⟩⟩⟩⟩⟩))
/-! put, add, drop -/
theorem mx_put_r {post : Int32 → SX → Prop} {p q w : Int32} (h : ¬ mh_pf op ch sl p q = 0) (hp : post (mh_pf op ch sl p q) (c, cv, op, st, sv, ch, sl, sc, dt, dc, dv)) : wpX_put post (c, cv, op, st, sv, ch, sl, sc, dt, dc, dv) p q w := by
  unfold wpX_put
  dsimp only
  refine mx_pf (post := fun r => wX_put_21 post p q w r c cv op st sv ch sl sc dt dc dv) ?_
  unfold wX_put_21
  exact br_f h hp
theorem mx_put_48 {post : Int32 → SX → Prop} {t r : Nat} {w z : Int32} (ht : t < 4) (hr : r < 8) (hp : post z (c, cv, op, upd st t (st t ||| ((1 : Int32) <<< (nI r &&& 31))), upd sv (8 * t + r) w, upd ch t (ch t ||| ((1 : Int32) <<< (nI r &&& 31))), sl, sc, dt, dc, dv)) : wX_put_48 post (nI t) (nI r) w z c cv op st sv ch sl sc dt dc dv := by
  unfold wX_put_48
  have hi : vp_in (nI t) 4 := vp_in_nI ht (by decide)
  rw [mh_ix, nI_clamp (n := t) (by omega), nI_clamp (n := 8 * t + r) (by omega)]
  exact ⟨hi, hi, nm_e ⟨vp_in_nI (by omega) (by decide), nm_e ⟨hi, hi, nm_e hp⟩⟩⟩
theorem mx_put_o {post : Int32 → SX → Prop} {t r : Nat} {w : Int32} (ht : t < 4) (hr : r < 8) (h : mh_pf op ch sl (nI t) (nI r) = 0) (hp : post (if bt (st t) r = true then 1 else 0) (c, cv, op, upd st t (st t ||| ((1 : Int32) <<< (nI r &&& 31))), upd sv (8 * t + r) w, upd ch t (ch t ||| ((1 : Int32) <<< (nI r &&& 31))), sl, sc, dt, dc, dv)) : wpX_put post (c, cv, op, st, sv, ch, sl, sc, dt, dc, dv) (nI t) (nI r) w := by
  unfold wpX_put
  dsimp only
  refine mx_pf (post := fun r' => wX_put_21 post (nI t) (nI r) w r' c cv op st sv ch sl sc dt dc dv) ?_
  unfold wX_put_21
  refine br_t h ⟨vp_in_nI ht (by decide), ?_⟩
  rw [nI_clamp (by omega)]
  refine mx_ct hr (fun hb => ?_) (fun hb => ?_)
  · rw [if_pos hb] at hp; exact br_f (by decide) (mx_put_48 ht hr hp)
  · rw [if_neg (mh_nt hb)] at hp; exact br_t rfl (mx_put_48 ht hr hp)
theorem mx_add_r {post : Int32 → SX → Prop} {p q w : Int32} (h : ¬ mh_ef op st ch sl p q = 0) (hp : post (mh_ef op st ch sl p q) (c, cv, op, st, sv, ch, sl, sc, dt, dc, dv)) : wpX_add post (c, cv, op, st, sv, ch, sl, sc, dt, dc, dv) p q w := by
  unfold wpX_add
  dsimp only
  exact mx_ef (br_f h hp)
theorem mx_add_o {post : Int32 → SX → Prop} {t r : Nat} {w : Int32} (ht : t < 4) (hr : r < 8) (h : mh_ef op st ch sl (nI t) (nI r) = 0) (hp : post 0 (c, cv, op, st, upd sv (8 * t + r) (sv (8 * t + r) + w), upd ch t (ch t ||| ((1 : Int32) <<< (nI r &&& 31))), sl, sc, dt, dc, dv)) : wpX_add post (c, cv, op, st, sv, ch, sl, sc, dt, dc, dv) (nI t) (nI r) w := by
  unfold wpX_add
  dsimp only
  refine mx_ef (br_t h ?_)
  have hi : vp_in (nI t) 4 := vp_in_nI ht (by decide)
  have hj : vp_in (nI (8 * t + r)) 32 := vp_in_nI (by omega) (by decide)
  rw [mh_ix, nI_clamp (n := t) (by omega), nI_clamp (n := 8 * t + r) (by omega)]
  exact ⟨hj, hj, nm_e ⟨hi, hi, nm_e hp⟩⟩
theorem mx_drop_r {post : Int32 → SX → Prop} {p q : Int32} (h : ¬ mh_ef op st ch sl p q = 0) (hp : post (mh_ef op st ch sl p q) (c, cv, op, st, sv, ch, sl, sc, dt, dc, dv)) : wpX_drop post (c, cv, op, st, sv, ch, sl, sc, dt, dc, dv) p q := by
  unfold wpX_drop
  dsimp only
  exact mx_ef (br_f h hp)
theorem mx_drop_o {post : Int32 → SX → Prop} {t r : Nat} (ht : t < 4) (hr : r < 8) (h : mh_ef op st ch sl (nI t) (nI r) = 0) (hp : post 0 (c, cv, op, upd st t (st t &&& (((1 : Int32) <<< (nI r &&& 31)) ^^^ (-1))), sv, upd ch t (ch t ||| ((1 : Int32) <<< (nI r &&& 31))), sl, sc, dt, dc, dv)) : wpX_drop post (c, cv, op, st, sv, ch, sl, sc, dt, dc, dv) (nI t) (nI r) := by
  unfold wpX_drop
  dsimp only
  refine mx_ef (br_t h ?_)
  have hi : vp_in (nI t) 4 := vp_in_nI ht (by decide)
  rw [nI_clamp (n := t) (by omega)]
  exact ⟨hi, hi, nm_e ⟨hi, hi, nm_e hp⟩⟩
/-! get, has, count, sum, find, changed -/
theorem mx_get_r {post : Int32 → Prop} {p q : Int32} (h : ¬ mh_rr op p q = 0) (hp : post 0) : wpX_get post (c, cv, op, st, sv, ch, sl, sc, dt, dc, dv) p q := by
  unfold wpX_get
  dsimp only
  exact mx_rr (br_f h hp)
theorem mx_get_o {post : Int32 → Prop} {t r : Nat} (ht : t < 4) (hr : r < 8) (ho : ¬ op t = 0) (hp : post (if bt (st t) r = true then sv (8 * t + r) else 0)) : wpX_get post (c, cv, op, st, sv, ch, sl, sc, dt, dc, dv) (nI t) (nI r) := by
  unfold wpX_get
  dsimp only
  refine mx_rr (br_t (mh_rrk ht hr ho) ⟨vp_in_nI ht (by decide), ?_⟩)
  rw [mh_ix, nI_clamp (n := t) (by omega), nI_clamp (n := 8 * t + r) (by omega)]
  refine mx_ct hr (fun hb => ?_) (fun hb => ?_)
  · rw [if_pos hb] at hp; exact br_f (by decide) ⟨vp_in_nI (by omega) (by decide), hp⟩
  · rw [if_neg (mh_nt hb)] at hp; exact br_t rfl hp
theorem mx_has_r {post : Int32 → Prop} {p q : Int32} (h : ¬ mh_rr op p q = 0) (hp : post 0) : wpX_has post (c, cv, op, st, sv, ch, sl, sc, dt, dc, dv) p q := by
  unfold wpX_has
  dsimp only
  exact mx_rr (br_f h hp)
theorem mx_has_o {post : Int32 → Prop} {t r : Nat} (ht : t < 4) (hr : r < 8) (ho : ¬ op t = 0) (hp : post (if bt (st t) r = true then 1 else 0)) : wpX_has post (c, cv, op, st, sv, ch, sl, sc, dt, dc, dv) (nI t) (nI r) := by
  unfold wpX_has
  dsimp only
  refine mx_rr (br_t (mh_rrk ht hr ho) ⟨vp_in_nI ht (by decide), ?_⟩)
  rw [nI_clamp (n := t) (by omega)]
  refine mx_ct hr (fun hb => ?_) (fun hb => ?_)
  · rw [if_pos hb] at hp; exact ⟨rfl, hp⟩
  · rw [if_neg (mh_nt hb)] at hp; exact ⟨rfl, hp⟩
theorem mx_count_r {post : Int32 → Prop} {p : Int32} (h : ¬ mh_tr op p = 0) (hp : post (mh_tr op p)) : wpX_count post (c, cv, op, st, sv, ch, sl, sc, dt, dc, dv) p := by
  unfold wpX_count
  dsimp only
  exact mx_tr (br_f h hp)
theorem mx_count_o {post : Int32 → Prop} {t : Nat} (ht : t < 4) (ho : ¬ op t = 0) (hp : post (mh_ct (bt (st t)) 8)) : wpX_count post (c, cv, op, st, sv, ch, sl, sc, dt, dc, dv) (nI t) := by
  unfold wpX_count
  dsimp only
  refine mx_tr (br_t (mh_trk ht ho) ⟨vp_in_nI ht (by decide), ?_⟩)
  rw [nI_clamp (n := t) (by omega)]
  exact mx_sz hp
theorem mx_sml {post : Int32 → Prop} {t : Nat} (ht : t < 4) (h : post (mh_sm (fun r => if bt (st t) r = true then sv (8 * t + r) else 0) 8)) : ∀ d i n : Nat, i + d = 8 → d < n → wX_sum_14 post (nI t) c cv op st sv ch sl sc dt dc dv n (mh_sm (fun r => if bt (st t) r = true then sv (8 * t + r) else 0) i) (nI i) := by
  intro d
  induction d with
  | zero =>
    intro i n hi hn
    obtain ⟨n, rfl⟩ : ∃ k, n = k + 1 := ⟨n - 1, by omega⟩
    obtain rfl : i = 8 := by omega
    exact br_t mh_e8 h
  | succ d ih =>
    intro i n hi hn
    obtain ⟨n, rfl⟩ : ∃ k, n = k + 1 := ⟨n - 1, by omega⟩
    have g := ih (i + 1) n (by omega) (by omega)
    rw [wX_sum_14]
    dsimp only
    rw [mh_ix, nI_clamp (n := t) (by omega), nI_clamp (n := 8 * t + i) (by omega)]
    refine br_f (mh_g8 (by omega)) ⟨vp_in_nI ht (by decide), mx_ct (by omega) (fun hb => ?_) (fun hb => ?_)⟩
    · rw [mh_sm, if_pos hb] at g
      exact br_f (by decide) ⟨vp_in_nI (by omega) (by decide), nm_e (nm_r (nI_1 i) g)⟩
    · rw [mh_sm, if_neg (mh_nt hb), Int32.add_zero] at g
      exact br_t rfl (nm_r (nI_1 i) g)
theorem mx_sum_r {post : Int32 → Prop} {p : Int32} (h : ¬ mh_tr op p = 0) (hp : post 0) : wpX_sum post (c, cv, op, st, sv, ch, sl, sc, dt, dc, dv) p := by
  unfold wpX_sum
  dsimp only
  exact mx_tr (br_f h hp)
theorem mx_sum_o {post : Int32 → Prop} {t : Nat} (ht : t < 4) (ho : ¬ op t = 0) (hp : post (mh_sm (fun r => if bt (st t) r = true then sv (8 * t + r) else 0) 8)) : wpX_sum post (c, cv, op, st, sv, ch, sl, sc, dt, dc, dv) (nI t) := by
  unfold wpX_sum
  dsimp only
  exact mx_tr (br_t (mh_trk ht ho) ⟨9, mx_sml ht hp 8 0 9 (by omega) (by omega)⟩)
theorem mx_fdl {post : Int32 → Prop} {t : Nat} {p q : Int32} (ht : t < 4) : ∀ d i n : Nat, i + d = 8 → d < n → post (mh_fd (bt (st t)) (fun r => sv (8 * t + r)) p q d i) → wX_find_18 post (nI t) p q c cv op st sv ch sl sc dt dc dv n (nI i) := by
  intro d
  induction d with
  | zero =>
    intro i n hi hn h
    obtain ⟨n, rfl⟩ : ∃ k, n = k + 1 := ⟨n - 1, by omega⟩
    obtain rfl : i = 8 := by omega
    exact br_t mh_e8 h
  | succ d ih =>
    intro i n hi hn h
    obtain ⟨n, rfl⟩ : ∃ k, n = k + 1 := ⟨n - 1, by omega⟩
    unfold mh_fd at h
    rw [wX_find_18]
    dsimp only
    rw [mh_ix, nI_clamp (n := t) (by omega), nI_clamp (n := 8 * t + i) (by omega)]
    refine br_f (mh_g8 (by omega)) ?_
    by_cases hf : nI i < p
    · rw [if_pos hf] at h
      exact br_t hf (nm_r (nI_1 i) (ih (i + 1) n (by omega) (by omega) h))
    · rw [if_neg hf] at h
      refine br_f hf ⟨vp_in_nI ht (by decide), mx_ct (by omega) (fun hb => ?_) (fun hb => ?_)⟩
      · rw [if_pos hb] at h
        refine br_f (by decide) ⟨vp_in_nI (by omega) (by decide), ?_⟩
        by_cases hv : sv (8 * t + i) < q
        · rw [if_pos hv] at h
          exact br_t hv (nm_r (nI_1 i) (ih (i + 1) n (by omega) (by omega) h))
        · rw [if_neg hv] at h
          exact br_f hv h
      · rw [if_neg (mh_nt hb)] at h
        exact br_t rfl (nm_r (nI_1 i) (ih (i + 1) n (by omega) (by omega) h))
theorem mx_find_r {post : Int32 → Prop} {p q w : Int32} (h : ¬ mh_tr op p = 0) (hp : post (mh_tr op p)) : wpX_find post (c, cv, op, st, sv, ch, sl, sc, dt, dc, dv) p q w := by
  unfold wpX_find
  dsimp only
  exact mx_tr (br_f h hp)
theorem mx_find_o {post : Int32 → Prop} {t : Nat} {q w : Int32} (ht : t < 4) (ho : ¬ op t = 0) (hp : post (mh_fd (bt (st t)) (fun r => sv (8 * t + r)) q w 8 0)) : wpX_find post (c, cv, op, st, sv, ch, sl, sc, dt, dc, dv) (nI t) q w := by
  unfold wpX_find
  dsimp only
  exact mx_tr (br_t (mh_trk ht ho) ⟨9, mx_fdl ht 8 0 9 (by omega) (by omega) hp⟩)
theorem mx_changed_r {post : Int32 → Prop} {p : Int32} (h : ¬ mh_tr op p = 0) (hp : post (mh_tr op p)) : wpX_changed post (c, cv, op, st, sv, ch, sl, sc, dt, dc, dv) p := by
  unfold wpX_changed
  dsimp only
  exact mx_tr (br_f h hp)
theorem mx_changed_o {post : Int32 → Prop} {t : Nat} (ht : t < 4) (ho : ¬ op t = 0) (hp : post (ch t)) : wpX_changed post (c, cv, op, st, sv, ch, sl, sc, dt, dc, dv) (nI t) := by
  unfold wpX_changed
  dsimp only
  refine mx_tr (br_t (mh_trk ht ho) ⟨vp_in_nI ht (by decide), ?_⟩)
  rw [nI_clamp (n := t) (by omega)]
  exact hp
end
end
section
/-! ===== the class's methods, the rest ===== -/
section
variable {c : Int32} {cv op st sv ch sl sc dt dc dv : Nat → Int32}
/-! save -/
theorem mx_svl {post : Int32 → SX → Prop} {t j : Nat} {x : Int32} (ht : t < 4) (hj : j < 12) (h : post (x + 1) (c, cv, op, st, sv, ch, sl, upd sc t (x + 1), dt, dc, mh_fl dv (8 * j) (fun r => sv (8 * t + r)) mh_T 8)) : ∀ d i n : Nat, i + d = 8 → d < n → wX_save_63 post (nI t) x (nI j) c n (nI i) cv op st sv ch sl sc dt dc (mh_fl dv (8 * j) (fun r => sv (8 * t + r)) mh_T i) := by
  intro d
  induction d with
  | zero =>
    intro i n hi hn
    obtain ⟨n, rfl⟩ : ∃ k, n = k + 1 := ⟨n - 1, by omega⟩
    obtain rfl : i = 8 := by omega
    rw [wX_save_63]
    dsimp only
    rw [nI_clamp (n := t) (by omega)]
    exact br_t mh_e8 ⟨vp_in_nI ht (by decide), nm_e h⟩
  | succ d ih =>
    intro i n hi hn
    obtain ⟨n, rfl⟩ : ∃ k, n = k + 1 := ⟨n - 1, by omega⟩
    have g := ih (i + 1) n (by omega) (by omega)
    rw [← mh_flS rfl] at g
    rw [wX_save_63]
    dsimp only
    rw [mh_ix, mh_ix, nI_clamp (n := 8 * j + i) (by omega), nI_clamp (n := 8 * t + i) (by omega)]
    exact br_f (mh_g8 (by omega)) ⟨vp_in_nI (by omega) (by decide), vp_in_nI (by omega) (by decide), nm_e (nm_r (nI_1 i) g)⟩
theorem mx_save_r {post : Int32 → SX → Prop} {p : Int32} (h : ¬ mh_tr op p = 0) (hp : post (mh_tr op p) (c, cv, op, st, sv, ch, sl, sc, dt, dc, dv)) : wpX_save post (c, cv, op, st, sv, ch, sl, sc, dt, dc, dv) p := by
  unfold wpX_save
  dsimp only
  exact mx_tr (br_f h hp)
theorem mx_save_f {post : Int32 → SX → Prop} {t : Nat} (ht : t < 4) (ho : ¬ op t = 0) (hs : sc t = nI 3) (hp : post (-6) (c, cv, op, st, sv, ch, sl, sc, dt, dc, dv)) : wpX_save post (c, cv, op, st, sv, ch, sl, sc, dt, dc, dv) (nI t) := by
  unfold wpX_save
  dsimp only
  rw [nI_clamp (n := t) (by omega)]
  exact mx_tr (br_t (mh_trk ht ho) ⟨vp_in_nI ht (by decide), nm_r hs (br_f (by decide) hp)⟩)
theorem mx_save_o {post : Int32 → SX → Prop} {t m : Nat} (ht : t < 4) (ho : ¬ op t = 0) (hm : m < 3) (hs : sc t = nI m) (hp : post (nI m + 1) (c, cv, op, st, sv, ch, sl, upd sc t (nI m + 1), upd dt (3 * t + m) (st t), upd dc (3 * t + m) (ch t), mh_fl dv (8 * (3 * t + m)) (fun r => sv (8 * t + r)) mh_T 8)) : wpX_save post (c, cv, op, st, sv, ch, sl, sc, dt, dc, dv) (nI t) := by
  unfold wpX_save
  dsimp only
  rw [nI_clamp (n := t) (by omega)]
  have hi : vp_in (nI t) 4 := vp_in_nI ht (by decide)
  have hj : vp_in (nI (3 * t + m)) 12 := vp_in_nI (by omega) (by decide)
  have g := mx_svl ht (show 3 * t + m < 12 by omega) hp 8 0 9 (by omega) (by omega)
  rw [mh_fl0] at g
  refine mx_tr (br_t (mh_trk ht ho) ⟨hi, nm_r hs (br_t (nI_lt (b := 3) hm (by decide)) (nm_r (mh_i3 t m) ⟨hi, hj, ?_⟩))⟩)
  rw [nI_clamp (n := 3 * t + m) (by omega)]
  exact nm_e ⟨hi, hj, nm_e ⟨9, g⟩⟩
/-! back -/
theorem mx_bkl {post : Int32 → SX → Prop} {t j : Nat} {x : Int32} (ht : t < 4) (hj : j < 12) (h : post x (c, cv, op, st, mh_fl sv (8 * t) (fun r => dv (8 * j + r)) mh_T 8, ch, sl, upd sc t x, dt, dc, dv)) : ∀ d i n : Nat, i + d = 8 → d < n → wX_back_64 post (nI t) x (nI j) c n (nI i) cv op st (mh_fl sv (8 * t) (fun r => dv (8 * j + r)) mh_T i) ch sl sc dt dc dv := by
  intro d
  induction d with
  | zero =>
    intro i n hi hn
    obtain ⟨n, rfl⟩ : ∃ k, n = k + 1 := ⟨n - 1, by omega⟩
    obtain rfl : i = 8 := by omega
    rw [wX_back_64]
    dsimp only
    rw [nI_clamp (n := t) (by omega)]
    exact br_t mh_e8 ⟨vp_in_nI ht (by decide), nm_e h⟩
  | succ d ih =>
    intro i n hi hn
    obtain ⟨n, rfl⟩ : ∃ k, n = k + 1 := ⟨n - 1, by omega⟩
    have g := ih (i + 1) n (by omega) (by omega)
    rw [← mh_flS rfl] at g
    rw [wX_back_64]
    dsimp only
    rw [mh_ix, mh_ix, nI_clamp (n := 8 * j + i) (by omega), nI_clamp (n := 8 * t + i) (by omega)]
    exact br_f (mh_g8 (by omega)) ⟨vp_in_nI (by omega) (by decide), vp_in_nI (by omega) (by decide), nm_e (nm_r (nI_1 i) g)⟩
theorem mx_back_r {post : Int32 → SX → Prop} {p : Int32} (h : ¬ mh_tr op p = 0) (hp : post (mh_tr op p) (c, cv, op, st, sv, ch, sl, sc, dt, dc, dv)) : wpX_back post (c, cv, op, st, sv, ch, sl, sc, dt, dc, dv) p := by
  unfold wpX_back
  dsimp only
  exact mx_tr (br_f h hp)
theorem mx_back_z {post : Int32 → SX → Prop} {t : Nat} (ht : t < 4) (ho : ¬ op t = 0) (hs : sc t = nI 0) (hp : post (-3) (c, cv, op, st, sv, ch, sl, sc, dt, dc, dv)) : wpX_back post (c, cv, op, st, sv, ch, sl, sc, dt, dc, dv) (nI t) := by
  unfold wpX_back
  dsimp only
  rw [nI_clamp (n := t) (by omega)]
  exact mx_tr (br_t (mh_trk ht ho) ⟨vp_in_nI ht (by decide), nm_r (e' := -1) (by rw [hs]; decide) (br_f (by decide) hp)⟩)
theorem mx_back_o {post : Int32 → SX → Prop} {t m : Nat} (ht : t < 4) (ho : ¬ op t = 0) (hm : m < 3) (hs : sc t = nI (m + 1)) (hp : post (nI m) (c, cv, op, upd st t (dt (3 * t + m)), mh_fl sv (8 * t) (fun r => dv (8 * (3 * t + m) + r)) mh_T 8, upd ch t (dc (3 * t + m)), sl, upd sc t (nI m), dt, dc, dv)) : wpX_back post (c, cv, op, st, sv, ch, sl, sc, dt, dc, dv) (nI t) := by
  unfold wpX_back
  dsimp only
  rw [nI_clamp (n := t) (by omega)]
  have hi : vp_in (nI t) 4 := vp_in_nI ht (by decide)
  have hj : vp_in (nI (3 * t + m)) 12 := vp_in_nI (by omega) (by decide)
  have g := mx_bkl ht (show 3 * t + m < 12 by omega) hp 8 0 9 (by omega) (by omega)
  rw [mh_fl0] at g
  refine mx_tr (br_t (mh_trk ht ho) ⟨hi, nm_r (e' := nI m) (by rw [hs, nI_pred]) (br_t (nI_pos' (by omega)) (nm_r (mh_i3 t m) ⟨hj, hi, ?_⟩))⟩)
  rw [nI_clamp (n := 3 * t + m) (by omega)]
  exact nm_e ⟨hj, hi, nm_e ⟨9, g⟩⟩
/-! commit, abort, crash -/
theorem mx_c95 {post : Int32 → SX → Prop} {x : Int32} (h : post (mh_ct (bt x) 8) (c, cv, op, st, sv, ch, mh_fl sl 0 (fun j => sl j ||| x) mh_T 4, sc, dt, dc, dv)) : ∀ d i n : Nat, i + d = 4 → d < n → wX_commit_95 post x c n (nI i) cv op st sv ch (mh_fl sl 0 (fun j => sl j ||| x) mh_T i) sc dt dc dv := by
  intro d
  induction d with
  | zero =>
    intro i n hi hn
    obtain ⟨n, rfl⟩ : ∃ k, n = k + 1 := ⟨n - 1, by omega⟩
    obtain rfl : i = 4 := by omega
    exact br_t mh_e4 (mx_sz h)
  | succ d ih =>
    intro i n hi hn
    obtain ⟨n, rfl⟩ : ∃ k, n = k + 1 := ⟨n - 1, by omega⟩
    have g := ih (i + 1) n (by omega) (by omega)
    rw [← mh_flS0 rfl] at g
    rw [wX_commit_95]
    dsimp only
    rw [nI_clamp (n := i) (by omega), mh_flo (j := i) (by omega)]
    exact br_f (mh_g4 (by omega)) ⟨vp_in_nI (by omega) (by decide), vp_in_nI (by omega) (by decide), nm_e (nm_r (nI_1 i) g)⟩
theorem mx_c43 {post : Int32 → SX → Prop} {t : Nat} {x : Int32} (ht : t < 4) (h : post (mh_ct (bt x) 8) (c, mh_fl cv 0 (fun r => sv (8 * t + r)) (bt x) 8, upd op t 0, st, sv, ch, mh_fl sl 0 (fun j => sl j ||| x) mh_T 4, sc, dt, dc, dv)) : ∀ d i n : Nat, i + d = 8 → d < n → wX_commit_43 post (nI t) x c n (nI i) (mh_fl cv 0 (fun r => sv (8 * t + r)) (bt x) i) op st sv ch sl sc dt dc dv := by
  intro d
  induction d with
  | zero =>
    intro i n hi hn
    obtain ⟨n, rfl⟩ : ∃ k, n = k + 1 := ⟨n - 1, by omega⟩
    obtain rfl : i = 8 := by omega
    have g := mx_c95 h 4 0 5 (by omega) (by omega)
    rw [mh_fl0] at g
    rw [wX_commit_43]
    dsimp only
    rw [nI_clamp (n := t) (by omega), mh_n0]
    exact br_t mh_e8 ⟨vp_in_nI ht (by decide), nm_e ⟨5, g⟩⟩
  | succ d ih =>
    intro i n hi hn
    obtain ⟨n, rfl⟩ : ∃ k, n = k + 1 := ⟨n - 1, by omega⟩
    have g := ih (i + 1) n (by omega) (by omega)
    rw [wX_commit_43]
    dsimp only
    rw [mh_ix, nI_clamp (n := i) (by omega), nI_clamp (n := 8 * t + i) (by omega)]
    refine br_f (mh_g8 (by omega)) (mx_ct (by omega) (fun hb => ?_) (fun hb => ?_))
    · rw [← mh_flS0 hb] at g
      exact br_f (by decide) ⟨vp_in_nI (by omega) (by decide), vp_in_nI (by omega) (by decide), nm_e (nm_r (nI_1 i) g)⟩
    · rw [← mh_flN (Or.inl hb)] at g
      exact br_t rfl (nm_r (nI_1 i) g)
theorem mx_commit_r {post : Int32 → SX → Prop} {p : Int32} (h : ¬ mh_tr op p = 0) (hp : post (mh_tr op p) (c, cv, op, st, sv, ch, sl, sc, dt, dc, dv)) : wpX_commit post (c, cv, op, st, sv, ch, sl, sc, dt, dc, dv) p := by
  unfold wpX_commit
  dsimp only
  exact mx_tr (br_f h hp)
theorem mx_commit_o {post : Int32 → SX → Prop} {t : Nat} (ht : t < 4) (ho : ¬ op t = 0) (hp : post (mh_ct (bt (ch t)) 8) ((c &&& (ch t ^^^ (-1))) ||| (st t &&& ch t), mh_fl cv 0 (fun r => sv (8 * t + r)) (bt (ch t)) 8, upd op t 0, st, sv, ch, mh_fl sl 0 (fun j => sl j ||| ch t) mh_T 4, sc, dt, dc, dv)) : wpX_commit post (c, cv, op, st, sv, ch, sl, sc, dt, dc, dv) (nI t) := by
  unfold wpX_commit
  dsimp only
  rw [nI_clamp (n := t) (by omega)]
  have hi : vp_in (nI t) 4 := vp_in_nI ht (by decide)
  have g := mx_c43 ht hp 8 0 9 (by omega) (by omega)
  rw [mh_fl0] at g
  exact mx_tr (br_t (mh_trk ht ho) ⟨hi, nm_e ⟨hi, nm_e ⟨9, g⟩⟩⟩)
theorem mx_abort_r {post : Int32 → SX → Prop} {p : Int32} (h : ¬ mh_tr op p = 0) (hp : post (mh_tr op p) (c, cv, op, st, sv, ch, sl, sc, dt, dc, dv)) : wpX_abort post (c, cv, op, st, sv, ch, sl, sc, dt, dc, dv) p := by
  unfold wpX_abort
  dsimp only
  exact mx_tr (br_f h hp)
theorem mx_abort_o {post : Int32 → SX → Prop} {t : Nat} (ht : t < 4) (ho : ¬ op t = 0) (hp : post (mh_ct (bt (ch t)) 8) (c, cv, upd op t 0, st, sv, ch, sl, sc, dt, dc, dv)) : wpX_abort post (c, cv, op, st, sv, ch, sl, sc, dt, dc, dv) (nI t) := by
  unfold wpX_abort
  dsimp only
  rw [nI_clamp (n := t) (by omega), mh_n0]
  have hi : vp_in (nI t) 4 := vp_in_nI ht (by decide)
  exact mx_tr (br_t (mh_trk ht ho) ⟨hi, nm_e ⟨hi, mx_sz hp⟩⟩)
theorem mx_crl {post : Int32 → SX → Prop} (h : post (mh_ct (fun t => !decide (op t = 0)) 4) (c, cv, mh_fl op 0 (fun _ => 0) mh_T 4, st, sv, ch, sl, sc, dt, dc, dv)) : ∀ d i n : Nat, i + d = 4 → d < n → wX_crash_4 post c n (mh_ct (fun t => !decide (op t = 0)) i) (nI i) cv (mh_fl op 0 (fun _ => 0) mh_T i) st sv ch sl sc dt dc dv := by
  intro d
  induction d with
  | zero =>
    intro i n hi hn
    obtain ⟨n, rfl⟩ : ∃ k, n = k + 1 := ⟨n - 1, by omega⟩
    obtain rfl : i = 4 := by omega
    exact br_t mh_e4 h
  | succ d ih =>
    intro i n hi hn
    obtain ⟨n, rfl⟩ : ∃ k, n = k + 1 := ⟨n - 1, by omega⟩
    have g := ih (i + 1) n (by omega) (by omega)
    rw [wX_crash_4]
    dsimp only
    rw [nI_clamp (n := i) (by omega), mh_flo (j := i) (by omega), mh_n0]
    have hi : vp_in (nI i) 4 := vp_in_nI (by omega) (by decide)
    refine br_f (mh_g4 (by omega)) ⟨hi, ?_⟩
    by_cases ho : op i = 0
    · rw [mh_ctf (by rw [decide_eq_true ho]; rfl), ← mh_flN (Or.inr (by rw [Nat.zero_add]; exact ho.symm))] at g
      exact br_t ho (nm_r (nI_1 i) g)
    · rw [mh_ctt (by rw [decide_eq_false ho]; rfl), ← mh_flS0 rfl] at g
      exact br_f ho (nm_e ⟨hi, nm_e (nm_r (nI_1 i) g)⟩)
theorem mx_crash {post : Int32 → SX → Prop} (h : post (mh_ct (fun t => !decide (op t = 0)) 4) (c, cv, mh_fl op 0 (fun _ => 0) mh_T 4, st, sv, ch, sl, sc, dt, dc, dv)) : wpX_crash post (c, cv, op, st, sv, ch, sl, sc, dt, dc, dv) := by
  unfold wpX_crash
  dsimp only
  have g := mx_crl h 4 0 5 (by omega) (by omega)
  rw [mh_fl0] at g
  exact ⟨5, g⟩
/-! committed, rows -/
theorem mx_committed {post : Int32 → Prop} {q : Int32} (h1 : q < 0 ∨ 8 ≤ q → post 0) (h2 : ∀ r : Nat, r < 8 → q = nI r → post (if bt c r = true then cv r else 0)) : wpX_committed post (c, cv, op, st, sv, ch, sl, sc, dt, dc, dv) q := by
  unfold wpX_committed
  dsimp only
  refine mx_row (fun z => br_t rfl (h1 z)) (fun r hr e => br_f (by decide) ?_)
  have h := h2 r hr e
  subst e
  rw [nI_clamp (n := r) (by omega)]
  refine mx_ct hr (fun hb => ?_) (fun hb => ?_)
  · rw [if_pos hb] at h; exact br_f (by decide) ⟨vp_in_nI hr (by decide), h⟩
  · rw [if_neg (mh_nt hb)] at h; exact br_t rfl h
theorem mx_rows {post : Int32 → Prop} (h : post (mh_ct (bt c) 8)) : wpX_rows post (c, cv, op, st, sv, ch, sl, sc, dt, dc, dv) := by
  unfold wpX_rows
  dsimp only
  exact mx_sz h
end
end
section
/-! ===== the reference's helpers and loops ===== -/
section
variable {st ch th vl cg op sl sc : Nat → Int32}
theorem my_tr {post : Int32 → Prop} {p : Int32} (h : post (mh_tr op p)) : wpY_test post (th, vl, cg, op, sl, sc) p := by
  unfold wpY_test
  dsimp only
  unfold mh_tr at h
  by_cases h0 : p < 0
  · rw [if_pos h0] at h; exact br_t h0 h
  · rw [if_neg h0] at h
    by_cases h4 : 4 ≤ p
    · rw [if_pos h4] at h
      exact br_f h0 (br_f (fun z => absurd (Int32.le_trans h4 z) (by decide)) h)
    · rw [if_neg h4] at h
      obtain ⟨t, ht, rfl⟩ := mh_lt (n := 4) rfl (by omega) h0 h4
      refine br_f h0 (br_t (nI_le (b := 3) (by omega) (by decide)) ⟨vp_in_nI ht (by decide), ?_⟩)
      by_cases ho : op (nI t).toNatClampNeg = 0
      · rw [if_pos ho] at h; exact br_t ho h
      · rw [if_neg ho] at h; exact br_f ho h
theorem my_rr {post : Int32 → Prop} {p q : Int32} (h : post (mh_rr op p q)) : wpY_testRow post (th, vl, cg, op, sl, sc) p q := by
  unfold wpY_testRow
  dsimp only
  refine my_tr ?_
  unfold mh_rr at h
  by_cases a : mh_tr op p = 0
  · rw [if_pos a] at h
    refine br_t a ?_
    rw [a]
    by_cases h0 : q < 0
    · rw [if_pos h0] at h; exact br_t h0 h
    · rw [if_neg h0] at h
      by_cases h8 : 8 ≤ q
      · rw [if_pos h8] at h
        exact br_f h0 (br_f (fun z => absurd (Int32.le_trans h8 z) (by decide)) h)
      · rw [if_neg h8] at h
        obtain ⟨r, hr, rfl⟩ := mh_lt (n := 8) rfl (by omega) h0 h8
        exact br_f h0 (br_t (nI_le (b := 7) (by omega) (by decide)) h)
  · rw [if_neg a] at h; exact br_f a h
theorem my_cfl {post : Int32 → Prop} {t r : Nat} (ht : t < 4) (hr : r < 8) (hC : ∀ i, i < 4 → cg i = ch i) : ∀ d i n : Nat, i + d = 4 → d < n → post (mh_cf op ch sl t r d i) → wY_testChange_2 post (nI t) (nI r) th vl cg op sl sc n (nI i) := by
  intro d
  induction d with
  | zero =>
    intro i n hi hn h
    obtain ⟨n, rfl⟩ : ∃ k, n = k + 1 := ⟨n - 1, by omega⟩
    obtain rfl : i = 4 := by omega
    unfold mh_cf at h
    rw [wY_testChange_2]
    refine br_t mh_e4 ⟨vp_in_nI ht (by decide), ?_⟩
    rw [nI_clamp (by omega)]
    cases hb : bt (sl t) r
    · rw [if_neg (mh_nt hb)] at h; exact br_f (mh_bf hr hb) h
    · rw [if_pos hb] at h; exact br_t (mh_bt hr hb) h
  | succ d ih =>
    intro i n hi hn h
    obtain ⟨n, rfl⟩ : ∃ k, n = k + 1 := ⟨n - 1, by omega⟩
    unfold mh_cf at h
    rw [wY_testChange_2]
    refine br_f (mh_g4 (by omega)) ?_
    by_cases e : i = t
    · rw [if_pos e] at h
      exact br_t (by rw [e]) (nm_r (nI_1 i) (ih (i + 1) n (by omega) (by omega) h))
    · rw [if_neg e] at h
      refine br_f (fun z => e ((nI_eq (by omega) (by omega)).mp z)) ⟨vp_in_nI (by omega) (by decide), ?_⟩
      rw [nI_clamp (by omega), hC i (by omega)]
      by_cases ho : op i = 0
      · rw [if_pos ho] at h
        exact br_t ho (nm_r (nI_1 i) (ih (i + 1) n (by omega) (by omega) h))
      · rw [if_neg ho] at h
        refine br_f ho ⟨vp_in_nI (by omega) (by decide), ?_⟩
        cases hb : bt (ch i) r
        · rw [if_neg (mh_nt hb)] at h
          exact br_f (mh_bf hr hb) (nm_r (nI_1 i) (ih (i + 1) n (by omega) (by omega) h))
        · rw [if_pos hb] at h; exact br_t (mh_bt hr hb) h
theorem my_cf {post : Int32 → Prop} {t r : Nat} (ht : t < 4) (hr : r < 8) (hC : ∀ i, i < 4 → cg i = ch i) (h : post (mh_cf op ch sl t r 4 0)) : wpY_testChange post (th, vl, cg, op, sl, sc) (nI t) (nI r) := by
  unfold wpY_testChange
  exact ⟨5, my_cfl ht hr hC 4 0 5 (by omega) (by omega) h⟩
theorem my_pf {post : Int32 → Prop} {p q : Int32} (hC : ∀ i, i < 4 → cg i = ch i) (h : post (mh_pf op ch sl p q)) : wpY_testRow (fun r_1 => (((r_1 = 0 → (wpY_testChange (fun r_19 => post r_19) (th, vl, cg, op, sl, sc) p q)) ∧ (¬ r_1 = 0 → post r_1)))) (th, vl, cg, op, sl, sc) p q := by
  refine my_rr ?_
  by_cases a : mh_rr op p q = 0
  · refine br_t a ?_
    obtain ⟨t, r, ht, hr, rfl, rfl, ho⟩ := mh_rr0 a
    rw [mh_pfk ht hr ho] at h
    exact my_cf ht hr hC h
  · unfold mh_pf at h
    rw [if_neg a] at h
    exact br_f a h
/-- a cell of there against a bit -/
theorem my_b0 {x : Int32} {b : Bool} (h : x = if b = true then 1 else 0) (hb : b = false) : x = 0 := by rw [h, if_neg (mh_nt hb)]
theorem my_b1 {x : Int32} {b : Bool} (h : x = if b = true then 1 else 0) (hb : b = true) : ¬ x = 0 := by rw [h, if_pos hb]; decide
theorem my_bn {x : Int32} {b : Bool} (h : x = if b = true then 1 else 0) : vp_nar .boolean x = x := by
  cases b
  · rw [h]; exact mh_n0
  · rw [h]; exact mh_n1
theorem my_ef {post : Int32 → Prop} {p q : Int32} (hC : ∀ i, i < 4 → cg i = ch i) (hB : ∀ t, t < 4 → ∀ r, r < 8 → th (8 * t + r) = if bt (st t) r = true then 1 else 0) (h : post (mh_ef op st ch sl p q)) : wpY_testSeen post (th, vl, cg, op, sl, sc) p q := by
  unfold wpY_testSeen
  dsimp only
  refine my_rr ?_
  by_cases a : mh_rr op p q = 0
  · refine br_t a ?_
    obtain ⟨t, r, ht, hr, rfl, rfl, ho⟩ := mh_rr0 a
    rw [mh_efk ht hr ho] at h
    rw [mh_iy, nI_clamp (by omega)]
    refine ⟨vp_in_nI (by omega) (by decide), ?_⟩
    cases hb : bt (st t) r
    · rw [if_neg (mh_nt hb)] at h; exact br_t (my_b0 (hB t ht r hr) hb) h
    · rw [if_pos hb] at h; exact br_f (my_b1 (hB t ht r hr) hb) (my_cf ht hr hC h)
  · unfold mh_ef at h
    rw [if_neg a] at h
    exact br_f a h
theorem my_cpl {post : SY → Prop} {a b : Nat} (ha : a < 17) (hb : b < 17) (hab : a ≠ b) (hn : ∀ r, r < 8 → vp_nar .boolean (th (8 * a + r)) = th (8 * a + r)) (h : post (mh_fl th (8 * b) (fun r => th (8 * a + r)) mh_T 8, mh_fl vl (8 * b) (fun r => vl (8 * a + r)) mh_T 8, upd cg b (cg a), op, sl, sc)) : ∀ d i n : Nat, i + d = 8 → d < n → wY_copy_2 post (nI a) (nI b) n (nI i) (mh_fl th (8 * b) (fun r => th (8 * a + r)) mh_T i) (mh_fl vl (8 * b) (fun r => vl (8 * a + r)) mh_T i) cg op sl sc := by
  intro d
  induction d with
  | zero =>
    intro i n hi hn
    obtain ⟨n, rfl⟩ : ∃ k, n = k + 1 := ⟨n - 1, by omega⟩
    obtain rfl : i = 8 := by omega
    rw [wY_copy_2]
    dsimp only
    rw [nI_clamp (n := a) (by omega), nI_clamp (n := b) (by omega)]
    exact br_t mh_e8 ⟨vp_in_nI ha (by decide), vp_in_nI hb (by decide), nm_e h⟩
  | succ d ih =>
    intro i n hi hk
    obtain ⟨n, rfl⟩ : ∃ k, n = k + 1 := ⟨n - 1, by omega⟩
    have g := ih (i + 1) n (by omega) (by omega)
    rw [← mh_flS (f := th) rfl, ← mh_flS (f := vl) rfl] at g
    rw [wY_copy_2]
    dsimp only
    rw [mh_iy, mh_iy, nI_clamp (n := 8 * a + i) (by omega), nI_clamp (n := 8 * b + i) (by omega), mh_flo (f := th) (j := 8 * a + i) (by omega), mh_flo (f := vl) (j := 8 * a + i) (by omega), hn i (by omega)]
    have h1 : vp_in (nI (8 * a + i)) 136 := vp_in_nI (by omega) (by decide)
    have h2 : vp_in (nI (8 * b + i)) 136 := vp_in_nI (by omega) (by decide)
    exact br_f (mh_g8 (by omega)) ⟨h1, h2, nm_e ⟨h1, h2, nm_e (nm_r (nI_1 i) g)⟩⟩
theorem my_copy {post : SY → Prop} {a b : Nat} (ha : a < 17) (hb : b < 17) (hab : a ≠ b) (hn : ∀ r, r < 8 → vp_nar .boolean (th (8 * a + r)) = th (8 * a + r)) (h : post (mh_fl th (8 * b) (fun r => th (8 * a + r)) mh_T 8, mh_fl vl (8 * b) (fun r => vl (8 * a + r)) mh_T 8, upd cg b (cg a), op, sl, sc)) : wpY_copy post (th, vl, cg, op, sl, sc) (nI a) (nI b) := by
  unfold wpY_copy
  have g := my_cpl ha hb hab hn h 8 0 9 (by omega) (by omega)
  rw [mh_fl0, mh_fl0] at g
  exact ⟨9, g⟩
theorem my_szl {post : Int32 → Prop} {s : Int32} (h : post (mh_ct (bt s) 8)) : ∀ d i n : Nat, i + d = 8 → d < n → wY_bits_4 post s th vl cg op sl sc n (mh_ct (bt s) i) (nI i) := by
  intro d
  induction d with
  | zero =>
    intro i n hi hn
    obtain ⟨n, rfl⟩ : ∃ k, n = k + 1 := ⟨n - 1, by omega⟩
    obtain rfl : i = 8 := by omega
    exact br_t mh_e8 h
  | succ d ih =>
    intro i n hi hn
    obtain ⟨n, rfl⟩ : ∃ k, n = k + 1 := ⟨n - 1, by omega⟩
    have g := ih (i + 1) n (by omega) (by omega)
    rw [wY_bits_4]
    refine br_f (mh_g8 (by omega)) ?_
    cases hb : bt s i
    · rw [mh_ctf hb] at g
      exact nm_r (by rw [mh_bf0 (by omega) hb, Int32.add_zero]) (nm_r (nI_1 i) g)
    · rw [mh_ctt hb] at g
      exact nm_r (by rw [mh_bt (by omega) hb]) (nm_r (nI_1 i) g)
theorem my_sz {post : Int32 → Prop} {s : Int32} (h : post (mh_ct (bt s) 8)) : wpY_bits post (th, vl, cg, op, sl, sc) s := by
  unfold wpY_bits
  exact ⟨9, my_szl h 8 0 9 (by omega) (by omega)⟩
theorem my_change {post : SY → Prop} {t r : Nat} {x y : Int32} (ht : t < 4) (hr : r < 8) (hx : vp_nar .boolean x = x) (h : post (upd th (8 * t + r) x, upd vl (8 * t + r) y, upd cg t (cg t ||| ((1 : Int32) <<< (nI r &&& 31))), op, sl, sc)) : wpY_change post (th, vl, cg, op, sl, sc) (nI t) (nI r) x y := by
  unfold wpY_change
  dsimp only
  rw [mh_iy, nI_clamp (n := t) (by omega), nI_clamp (n := 8 * t + r) (by omega), hx]
  have h1 : vp_in (nI (8 * t + r)) 136 := vp_in_nI (by omega) (by decide)
  have h2 : vp_in (nI t) 17 := vp_in_nI (by omega) (by decide)
  exact ⟨h1, nm_e ⟨h1, nm_e ⟨h2, h2, nm_e h⟩⟩⟩
end
end
section
/-! ===== the reference's methods ===== -/
section
variable {st sv ch th vl cg op sl sc : Nat → Int32}
/-! open -/
theorem my_open_b {post : Int32 → SY → Prop} {p : Int32} (h : ¬ mh_tr op p = 0) (h2 : ¬ mh_tr op p = -2) (hp : post (mh_tr op p) (th, vl, cg, op, sl, sc)) : wpY_open post (th, vl, cg, op, sl, sc) p := by
  unfold wpY_open
  dsimp only
  exact my_tr (br_f h2 (br_f h hp))
theorem my_open_c {post : Int32 → SY → Prop} {p : Int32} (h : mh_tr op p = 0) (hp : post (-2) (th, vl, cg, op, sl, sc)) : wpY_open post (th, vl, cg, op, sl, sc) p := by
  unfold wpY_open
  dsimp only
  exact my_tr (br_f (by rw [h]; decide) (br_t h hp))
theorem my_open_o {post : Int32 → SY → Prop} {t : Nat} (ht : t < 4) (ho : op t = 0) (hn : ∀ r, r < 8 → vp_nar .boolean (th (8 * 4 + r)) = th (8 * 4 + r)) (hp : post 0 (mh_fl th (8 * t) (fun r => th (8 * 4 + r)) mh_T 8, mh_fl vl (8 * t) (fun r => vl (8 * 4 + r)) mh_T 8, upd (upd cg t (cg 4)) t 0, upd op t 1, upd sl t 0, upd sc t 0)) : wpY_open post (th, vl, cg, op, sl, sc) (nI t) := by
  unfold wpY_open
  dsimp only
  have hi : vp_in (nI t) 4 := vp_in_nI ht (by decide)
  rw [nI_clamp (n := t) (by omega), mh_n1]
  refine my_tr (br_t (by rw [mh_tri ht, if_pos ho]) ⟨hi, nm_e ?_⟩)
  refine my_copy (a := 4) (by omega) (by omega) (by omega) hn ?_
  exact ⟨vp_in_nI (by omega) (by decide), nm_e ⟨hi, nm_e ⟨hi, nm_e hp⟩⟩⟩
/-! put, add, drop -/
theorem my_put_r {post : Int32 → SY → Prop} {p q w : Int32} (hC : ∀ i, i < 4 → cg i = ch i) (h : ¬ mh_pf op ch sl p q = 0) (hp : post (mh_pf op ch sl p q) (th, vl, cg, op, sl, sc)) : wpY_put post (th, vl, cg, op, sl, sc) p q w := by
  unfold wpY_put
  dsimp only
  refine my_pf (post := fun r => wY_put_24 post p q w r th vl cg op sl sc) hC ?_
  unfold wY_put_24
  exact br_f h hp
theorem my_put_o {post : Int32 → SY → Prop} {t r : Nat} {w : Int32} (hC : ∀ i, i < 4 → cg i = ch i) (hB : ∀ t, t < 4 → ∀ r, r < 8 → th (8 * t + r) = if bt (st t) r = true then 1 else 0) (ht : t < 4) (hr : r < 8) (h : mh_pf op ch sl (nI t) (nI r) = 0) (hp : post (if bt (st t) r = true then 1 else 0) (upd th (8 * t + r) 1, upd vl (8 * t + r) w, upd cg t (cg t ||| ((1 : Int32) <<< (nI r &&& 31))), op, sl, sc)) : wpY_put post (th, vl, cg, op, sl, sc) (nI t) (nI r) w := by
  unfold wpY_put
  dsimp only
  refine my_pf (post := fun r' => wY_put_24 post (nI t) (nI r) w r' th vl cg op sl sc) hC ?_
  unfold wY_put_24
  rw [mh_iy, nI_clamp (n := 8 * t + r) (by omega)]
  refine br_t h ⟨vp_in_nI (by omega) (by decide), ?_⟩
  unfold wY_put_53
  cases hb : bt (st t) r
  · rw [if_neg (mh_nt hb)] at hp; exact br_t (my_b0 (hB t ht r hr) hb) (my_change ht hr mh_n1 hp)
  · rw [if_pos hb] at hp; exact br_f (my_b1 (hB t ht r hr) hb) (my_change ht hr mh_n1 hp)
theorem my_add_r {post : Int32 → SY → Prop} {p q w : Int32} (hC : ∀ i, i < 4 → cg i = ch i) (hB : ∀ t, t < 4 → ∀ r, r < 8 → th (8 * t + r) = if bt (st t) r = true then 1 else 0) (h : ¬ mh_ef op st ch sl p q = 0) (hp : post (mh_ef op st ch sl p q) (th, vl, cg, op, sl, sc)) : wpY_add post (th, vl, cg, op, sl, sc) p q w := by
  unfold wpY_add
  dsimp only
  exact my_ef hC hB (br_f h hp)
theorem my_add_o {post : Int32 → SY → Prop} {t r : Nat} {w : Int32} (hC : ∀ i, i < 4 → cg i = ch i) (hB : ∀ t, t < 4 → ∀ r, r < 8 → th (8 * t + r) = if bt (st t) r = true then 1 else 0) (ht : t < 4) (hr : r < 8) (h : mh_ef op st ch sl (nI t) (nI r) = 0) (hp : post 0 (upd th (8 * t + r) 1, upd vl (8 * t + r) (vl (8 * t + r) + w), upd cg t (cg t ||| ((1 : Int32) <<< (nI r &&& 31))), op, sl, sc)) : wpY_add post (th, vl, cg, op, sl, sc) (nI t) (nI r) w := by
  unfold wpY_add
  dsimp only
  refine my_ef hC hB (br_t h ?_)
  rw [h, mh_iy, nI_clamp (n := 8 * t + r) (by omega)]
  exact ⟨vp_in_nI (by omega) (by decide), my_change ht hr mh_n1 hp⟩
theorem my_drop_r {post : Int32 → SY → Prop} {p q : Int32} (hC : ∀ i, i < 4 → cg i = ch i) (hB : ∀ t, t < 4 → ∀ r, r < 8 → th (8 * t + r) = if bt (st t) r = true then 1 else 0) (h : ¬ mh_ef op st ch sl p q = 0) (hp : post (mh_ef op st ch sl p q) (th, vl, cg, op, sl, sc)) : wpY_drop post (th, vl, cg, op, sl, sc) p q := by
  unfold wpY_drop
  dsimp only
  exact my_ef hC hB (br_f h hp)
theorem my_drop_o {post : Int32 → SY → Prop} {t r : Nat} (hC : ∀ i, i < 4 → cg i = ch i) (hB : ∀ t, t < 4 → ∀ r, r < 8 → th (8 * t + r) = if bt (st t) r = true then 1 else 0) (ht : t < 4) (hr : r < 8) (h : mh_ef op st ch sl (nI t) (nI r) = 0) (hp : post 0 (upd th (8 * t + r) 0, upd vl (8 * t + r) 0, upd cg t (cg t ||| ((1 : Int32) <<< (nI r &&& 31))), op, sl, sc)) : wpY_drop post (th, vl, cg, op, sl, sc) (nI t) (nI r) := by
  unfold wpY_drop
  dsimp only
  refine my_ef hC hB (br_t h ?_)
  rw [h]
  exact my_change ht hr mh_n0 hp
/-! has, get, count, sum, find, changed -/
theorem my_has_r {post : Int32 → Prop} {p q : Int32} (h : ¬ mh_rr op p q = 0) (hp : post 0) : wpY_has post (th, vl, cg, op, sl, sc) p q := by
  unfold wpY_has
  dsimp only
  exact my_rr (br_f h hp)
theorem my_has_o {post : Int32 → Prop} {t r : Nat} {b : Bool} (ht : t < 4) (hr : r < 8) (ho : ¬ op t = 0) (hB : th (8 * t + r) = if b = true then 1 else 0) (hp : post (if b = true then 1 else 0)) : wpY_has post (th, vl, cg, op, sl, sc) (nI t) (nI r) := by
  unfold wpY_has
  dsimp only
  rw [mh_iy, nI_clamp (n := 8 * t + r) (by omega)]
  refine my_rr (br_t (mh_rrk ht hr ho) ⟨vp_in_nI (by omega) (by decide), ?_⟩)
  cases hb : b
  · rw [if_neg (mh_nt hb)] at hp; exact br_t (my_b0 hB hb) hp
  · rw [if_pos hb] at hp; exact br_f (my_b1 hB hb) hp
theorem my_get_r {post : Int32 → Prop} {p q : Int32} (h : ¬ mh_rr op p q = 0) (hp : post 0) : wpY_get post (th, vl, cg, op, sl, sc) p q := by
  unfold wpY_get
  dsimp only
  exact my_has_r h (br_t rfl hp)
theorem my_get_o {post : Int32 → Prop} {t r : Nat} {b : Bool} (ht : t < 4) (hr : r < 8) (ho : ¬ op t = 0) (hB : th (8 * t + r) = if b = true then 1 else 0) (hp : post (if b = true then vl (8 * t + r) else 0)) : wpY_get post (th, vl, cg, op, sl, sc) (nI t) (nI r) := by
  unfold wpY_get
  dsimp only
  refine my_has_o ht hr ho hB ?_
  rw [mh_iy, nI_clamp (n := 8 * t + r) (by omega)]
  cases b
  · exact br_t rfl hp
  · exact br_f (by decide) ⟨vp_in_nI (by omega) (by decide), hp⟩
theorem my_ctl {post : Int32 → Prop} {t : Nat} {m : Nat → Bool} (ht : t < 4) (hB : ∀ r, r < 8 → th (8 * t + r) = if m r = true then 1 else 0) (h : post (mh_ct m 8)) : ∀ d i n : Nat, i + d = 8 → d < n → wY_count_17 post (nI t) th vl cg op sl sc n (mh_ct m i) (nI i) := by
  intro d
  induction d with
  | zero =>
    intro i n hi hn
    obtain ⟨n, rfl⟩ : ∃ k, n = k + 1 := ⟨n - 1, by omega⟩
    obtain rfl : i = 8 := by omega
    exact br_t mh_e8 h
  | succ d ih =>
    intro i n hi hn
    obtain ⟨n, rfl⟩ : ∃ k, n = k + 1 := ⟨n - 1, by omega⟩
    have g := ih (i + 1) n (by omega) (by omega)
    rw [wY_count_17]
    dsimp only
    rw [mh_iy, nI_clamp (n := 8 * t + i) (by omega)]
    refine br_f (mh_g8 (by omega)) ⟨vp_in_nI (by omega) (by decide), ?_⟩
    cases hb : m i
    · rw [mh_ctf hb] at g
      exact br_t (my_b0 (hB i (by omega)) hb) (nm_r (nI_1 i) g)
    · rw [mh_ctt hb] at g
      exact br_f (my_b1 (hB i (by omega)) hb) (nm_e (nm_r (nI_1 i) g))
theorem my_count_r {post : Int32 → Prop} {p : Int32} (h : ¬ mh_tr op p = 0) (hp : post (mh_tr op p)) : wpY_count post (th, vl, cg, op, sl, sc) p := by
  unfold wpY_count
  dsimp only
  exact my_tr (br_f h hp)
theorem my_count_o {post : Int32 → Prop} {t : Nat} {m : Nat → Bool} (ht : t < 4) (ho : ¬ op t = 0) (hB : ∀ r, r < 8 → th (8 * t + r) = if m r = true then 1 else 0) (hp : post (mh_ct m 8)) : wpY_count post (th, vl, cg, op, sl, sc) (nI t) := by
  unfold wpY_count
  dsimp only
  exact my_tr (br_t (mh_trk ht ho) ⟨9, my_ctl ht hB hp 8 0 9 (by omega) (by omega)⟩)
theorem my_sml {post : Int32 → Prop} {p : Int32} {f : Nat → Int32} (hg : ∀ (P : Int32 → Prop) (r : Nat), r < 8 → P (f r) → wpY_get P (th, vl, cg, op, sl, sc) p (nI r)) (h : post (mh_sm f 8)) : ∀ d i n : Nat, i + d = 8 → d < n → wY_sum_4 post p th vl cg op sl sc n (mh_sm f i) (nI i) := by
  intro d
  induction d with
  | zero =>
    intro i n hi hn
    obtain ⟨n, rfl⟩ : ∃ k, n = k + 1 := ⟨n - 1, by omega⟩
    obtain rfl : i = 8 := by omega
    exact br_t mh_e8 h
  | succ d ih =>
    intro i n hi hn
    obtain ⟨n, rfl⟩ : ∃ k, n = k + 1 := ⟨n - 1, by omega⟩
    have g := ih (i + 1) n (by omega) (by omega)
    rw [mh_sm] at g
    rw [wY_sum_4]
    exact br_f (mh_g8 (by omega)) (hg _ i (by omega) (nm_e (nm_r (nI_1 i) g)))
theorem my_sum_r {post : Int32 → Prop} {p : Int32} (h : ¬ mh_tr op p = 0) (hp : post 0) : wpY_sum post (th, vl, cg, op, sl, sc) p := by
  unfold wpY_sum
  dsimp only
  refine ⟨9, my_sml (f := fun _ => 0) (fun P r hr hP => my_get_r ?_ hP) ?_ 8 0 9 (by omega) (by omega)⟩
  · unfold mh_rr
    rw [if_neg h]
    exact h
  · rw [show mh_sm (fun _ => 0) 8 = 0 by decide]
    exact hp
theorem my_sum_o {post : Int32 → Prop} {t : Nat} {m : Nat → Bool} (ht : t < 4) (ho : ¬ op t = 0) (hB : ∀ r, r < 8 → th (8 * t + r) = if m r = true then 1 else 0) (hp : post (mh_sm (fun r => if m r = true then vl (8 * t + r) else 0) 8)) : wpY_sum post (th, vl, cg, op, sl, sc) (nI t) := by
  unfold wpY_sum
  dsimp only
  exact ⟨9, my_sml (f := fun r => if m r = true then vl (8 * t + r) else 0) (fun P r hr hP => my_get_o ht hr ho (hB r hr) hP) hp 8 0 9 (by omega) (by omega)⟩
theorem my_fdl {post : Int32 → Prop} {t : Nat} {p q : Int32} {m : Nat → Bool} {f : Nat → Int32} (ht : t < 4) (hB : ∀ r, r < 8 → th (8 * t + r) = if m r = true then 1 else 0) (hV : ∀ r, r < 8 → m r = true → vl (8 * t + r) = f r) : ∀ d i n : Nat, i + d = 8 → d < n → post (mh_fd m f p q d i) → wY_find_18 post (nI t) p q th vl cg op sl sc n (nI i) := by
  intro d
  induction d with
  | zero =>
    intro i n hi hn h
    obtain ⟨n, rfl⟩ : ∃ k, n = k + 1 := ⟨n - 1, by omega⟩
    obtain rfl : i = 8 := by omega
    exact br_t mh_e8 h
  | succ d ih =>
    intro i n hi hn h
    obtain ⟨n, rfl⟩ : ∃ k, n = k + 1 := ⟨n - 1, by omega⟩
    unfold mh_fd at h
    rw [wY_find_18]
    dsimp only
    rw [mh_iy, nI_clamp (n := 8 * t + i) (by omega)]
    have hi1 : vp_in (nI (8 * t + i)) 136 := vp_in_nI (by omega) (by decide)
    refine br_f (mh_g8 (by omega)) ?_
    by_cases hf : nI i < p
    · rw [if_pos hf] at h
      exact br_t hf (nm_r (nI_1 i) (ih (i + 1) n (by omega) (by omega) h))
    · rw [if_neg hf] at h
      refine br_f hf ⟨hi1, ?_⟩
      cases hb : m i
      · rw [if_neg (mh_nt hb)] at h
        exact br_t (my_b0 (hB i (by omega)) hb) (nm_r (nI_1 i) (ih (i + 1) n (by omega) (by omega) h))
      · rw [if_pos hb] at h
        refine br_f (my_b1 (hB i (by omega)) hb) ⟨hi1, ?_⟩
        rw [hV i (by omega) hb]
        by_cases hv : f i < q
        · rw [if_pos hv] at h
          exact br_t hv (nm_r (nI_1 i) (ih (i + 1) n (by omega) (by omega) h))
        · rw [if_neg hv] at h
          exact br_f hv h
theorem my_find_r {post : Int32 → Prop} {p q w : Int32} (h : ¬ mh_tr op p = 0) (hp : post (mh_tr op p)) : wpY_find post (th, vl, cg, op, sl, sc) p q w := by
  unfold wpY_find
  dsimp only
  exact my_tr (br_f h hp)
theorem my_find_o {post : Int32 → Prop} {t : Nat} {q w : Int32} {m : Nat → Bool} {f : Nat → Int32} (ht : t < 4) (ho : ¬ op t = 0) (hB : ∀ r, r < 8 → th (8 * t + r) = if m r = true then 1 else 0) (hV : ∀ r, r < 8 → m r = true → vl (8 * t + r) = f r) (hp : post (mh_fd m f q w 8 0)) : wpY_find post (th, vl, cg, op, sl, sc) (nI t) q w := by
  unfold wpY_find
  dsimp only
  exact my_tr (br_t (mh_trk ht ho) ⟨9, my_fdl ht hB hV 8 0 9 (by omega) (by omega) hp⟩)
theorem my_changed_r {post : Int32 → Prop} {p : Int32} (h : ¬ mh_tr op p = 0) (hp : post (mh_tr op p)) : wpY_changed post (th, vl, cg, op, sl, sc) p := by
  unfold wpY_changed
  dsimp only
  exact my_tr (br_f h hp)
theorem my_changed_o {post : Int32 → Prop} {t : Nat} (ht : t < 4) (ho : ¬ op t = 0) (hp : post (cg t)) : wpY_changed post (th, vl, cg, op, sl, sc) (nI t) := by
  unfold wpY_changed
  dsimp only
  refine my_tr (br_t (mh_trk ht ho) ⟨vp_in_nI (by omega) (by decide), ?_⟩)
  rw [nI_clamp (n := t) (by omega)]
  exact hp
/-! save, back -/
theorem my_save_r {post : Int32 → SY → Prop} {p : Int32} (h : ¬ mh_tr op p = 0) (hp : post (mh_tr op p) (th, vl, cg, op, sl, sc)) : wpY_save post (th, vl, cg, op, sl, sc) p := by
  unfold wpY_save
  dsimp only
  exact my_tr (br_f h hp)
theorem my_save_f {post : Int32 → SY → Prop} {t : Nat} (ht : t < 4) (ho : ¬ op t = 0) (hs : sc t = nI 3) (hp : post (-6) (th, vl, cg, op, sl, sc)) : wpY_save post (th, vl, cg, op, sl, sc) (nI t) := by
  unfold wpY_save
  dsimp only
  rw [nI_clamp (n := t) (by omega)]
  exact my_tr (br_t (mh_trk ht ho) ⟨vp_in_nI ht (by decide), br_t hs hp⟩)
theorem my_save_o {post : Int32 → SY → Prop} {t k : Nat} (ht : t < 4) (ho : ¬ op t = 0) (hk : k < 3) (hs : sc t = nI k) (hn : ∀ r, r < 8 → vp_nar .boolean (th (8 * t + r)) = th (8 * t + r)) (hp : post (nI k + 1) (mh_fl th (8 * (5 + (3 * t + k))) (fun r => th (8 * t + r)) mh_T 8, mh_fl vl (8 * (5 + (3 * t + k))) (fun r => vl (8 * t + r)) mh_T 8, upd cg (5 + (3 * t + k)) (cg t), op, sl, upd sc t (nI k + 1))) : wpY_save post (th, vl, cg, op, sl, sc) (nI t) := by
  unfold wpY_save
  dsimp only
  have hi : vp_in (nI t) 4 := vp_in_nI ht (by decide)
  rw [nI_clamp (n := t) (by omega), hs, mh_i5]
  refine my_tr (br_t (mh_trk ht ho) ⟨hi, br_f (fun z => absurd ((nI_eq (b := 3) (by omega) (by decide)).mp z) (by omega)) ⟨hi, ?_⟩⟩)
  refine my_copy (by omega) (by omega) (by omega) hn ?_
  dsimp only
  refine ⟨hi, hi, nm_r (e' := upd sc t (nI k + 1)) (by rw [hs]) ⟨hi, ?_⟩⟩
  rw [pk_us]
  exact hp
theorem my_back_r {post : Int32 → SY → Prop} {p : Int32} (h : ¬ mh_tr op p = 0) (hp : post (mh_tr op p) (th, vl, cg, op, sl, sc)) : wpY_back post (th, vl, cg, op, sl, sc) p := by
  unfold wpY_back
  dsimp only
  exact my_tr (br_f h hp)
theorem my_back_z {post : Int32 → SY → Prop} {t : Nat} (ht : t < 4) (ho : ¬ op t = 0) (hs : sc t = nI 0) (hp : post (-3) (th, vl, cg, op, sl, sc)) : wpY_back post (th, vl, cg, op, sl, sc) (nI t) := by
  unfold wpY_back
  dsimp only
  rw [nI_clamp (n := t) (by omega)]
  exact my_tr (br_t (mh_trk ht ho) ⟨vp_in_nI ht (by decide), br_t hs hp⟩)
theorem my_back_o {post : Int32 → SY → Prop} {t k : Nat} (ht : t < 4) (ho : ¬ op t = 0) (hk : k < 3) (hs : sc t = nI (k + 1)) (hn : ∀ r, r < 8 → vp_nar .boolean (th (8 * (5 + (3 * t + k)) + r)) = th (8 * (5 + (3 * t + k)) + r)) (hp : post (nI k) (mh_fl th (8 * t) (fun r => th (8 * (5 + (3 * t + k)) + r)) mh_T 8, mh_fl vl (8 * t) (fun r => vl (8 * (5 + (3 * t + k)) + r)) mh_T 8, upd cg t (cg (5 + (3 * t + k))), op, sl, upd sc t (nI k))) : wpY_back post (th, vl, cg, op, sl, sc) (nI t) := by
  unfold wpY_back
  dsimp only
  have hi : vp_in (nI t) 4 := vp_in_nI ht (by decide)
  rw [nI_clamp (n := t) (by omega), hs, nI_pred]
  refine my_tr (br_t (mh_trk ht ho) ⟨hi, br_f (fun z => absurd ((nI_eq (b := 0) (by omega) (by decide)).mp z) (by omega)) ⟨hi, hi, nm_e ⟨hi, ?_⟩⟩⟩)
  rw [pk_us, mh_i5]
  refine my_copy (by omega) (by omega) (by omega) hn ?_
  dsimp only
  refine ⟨hi, ?_⟩
  rw [pk_us]
  exact hp
end
end
section
/-! ===== the reference's methods, the rest ===== -/
section
variable {st sv ch th vl cg op sl sc : Nat → Int32}
theorem my_abort_r {post : Int32 → SY → Prop} {p : Int32} (h : ¬ mh_tr op p = 0) (hp : post (mh_tr op p) (th, vl, cg, op, sl, sc)) : wpY_abort post (th, vl, cg, op, sl, sc) p := by
  unfold wpY_abort
  dsimp only
  exact my_tr (br_f h hp)
theorem my_abort_o {post : Int32 → SY → Prop} {t : Nat} (ht : t < 4) (ho : ¬ op t = 0) (hp : post (mh_ct (bt (cg t)) 8) (th, vl, cg, upd op t 0, sl, sc)) : wpY_abort post (th, vl, cg, op, sl, sc) (nI t) := by
  unfold wpY_abort
  dsimp only
  rw [nI_clamp (n := t) (by omega), mh_n0]
  exact my_tr (br_t (mh_trk ht ho) ⟨vp_in_nI ht (by decide), nm_e ⟨vp_in_nI (by omega) (by decide), my_sz hp⟩⟩)
theorem my_c82 {post : Int32 → SY → Prop} {t : Nat} (ht : t < 4) (ho : ¬ op t = 0) (h : post (mh_ct (bt (cg t)) 8) (th, vl, cg, upd op t 0, mh_fl sl 0 (fun j => sl j ||| cg t) mh_T 4, sc)) : ∀ d i n : Nat, i + d = 4 → d < n → wY_commit_82 post (nI t) n (nI i) th vl cg op (mh_fl sl 0 (fun j => sl j ||| cg t) mh_T i) sc := by
  intro d
  induction d with
  | zero =>
    intro i n hi hn
    obtain ⟨n, rfl⟩ : ∃ k, n = k + 1 := ⟨n - 1, by omega⟩
    obtain rfl : i = 4 := by omega
    exact br_t mh_e4 (my_abort_o ht ho h)
  | succ d ih =>
    intro i n hi hn
    obtain ⟨n, rfl⟩ : ∃ k, n = k + 1 := ⟨n - 1, by omega⟩
    have g := ih (i + 1) n (by omega) (by omega)
    rw [← mh_flS0 rfl] at g
    rw [wY_commit_82]
    dsimp only
    rw [nI_clamp (n := i) (by omega), nI_clamp (n := t) (by omega), mh_flo (j := i) (by omega)]
    have hi : vp_in (nI i) 4 := vp_in_nI (by omega) (by decide)
    exact br_f (mh_g4 (by omega)) ⟨hi, vp_in_nI (by omega) (by decide), hi, nm_e (nm_r (nI_1 i) g)⟩
theorem my_c14 {post : Int32 → SY → Prop} {t : Nat} (ht : t < 4) (ho : ¬ op t = 0) (hn : ∀ r, r < 8 → vp_nar .boolean (th (8 * t + r)) = th (8 * t + r)) (h : post (mh_ct (bt (cg t)) 8) (mh_fl th 32 (fun r => th (8 * t + r)) (bt (cg t)) 8, mh_fl vl 32 (fun r => vl (8 * t + r)) (bt (cg t)) 8, cg, upd op t 0, mh_fl sl 0 (fun j => sl j ||| cg t) mh_T 4, sc)) : ∀ d i n : Nat, i + d = 8 → d < n → wY_commit_14 post (nI t) n (nI i) (mh_fl th 32 (fun r => th (8 * t + r)) (bt (cg t)) i) (mh_fl vl 32 (fun r => vl (8 * t + r)) (bt (cg t)) i) cg op sl sc := by
  intro d
  induction d with
  | zero =>
    intro i n hi hk
    obtain ⟨n, rfl⟩ : ∃ k, n = k + 1 := ⟨n - 1, by omega⟩
    obtain rfl : i = 8 := by omega
    have g := my_c82 ht ho h 4 0 5 (by omega) (by omega)
    rw [mh_fl0] at g
    exact br_t mh_e8 ⟨5, g⟩
  | succ d ih =>
    intro i n hi hk
    obtain ⟨n, rfl⟩ : ∃ k, n = k + 1 := ⟨n - 1, by omega⟩
    have g := ih (i + 1) n (by omega) (by omega)
    rw [wY_commit_14]
    dsimp only
    rw [mh_iy, mh_32, nI_clamp (n := t) (by omega), nI_clamp (n := 8 * t + i) (by omega), nI_clamp (n := 32 + i) (by omega), mh_flo (f := th) (j := 8 * t + i) (by omega), mh_flo (f := vl) (j := 8 * t + i) (by omega), hn i (by omega)]
    have h1 : vp_in (nI (8 * t + i)) 136 := vp_in_nI (by omega) (by decide)
    have h2 : vp_in (nI (32 + i)) 136 := vp_in_nI (by omega) (by decide)
    refine br_f (mh_g8 (by omega)) ⟨vp_in_nI (by omega) (by decide), ?_⟩
    cases hb : bt (cg t) i
    · rw [← mh_flN (f := th) (Or.inl hb), ← mh_flN (f := vl) (Or.inl hb)] at g
      exact br_f (mh_bf (by omega) hb) (nm_r (nI_1 i) g)
    · rw [← mh_flS (f := th) hb, ← mh_flS (f := vl) hb] at g
      exact br_t (mh_bt (by omega) hb) ⟨h1, h2, nm_e ⟨h1, h2, nm_e (nm_r (nI_1 i) g)⟩⟩
theorem my_commit_r {post : Int32 → SY → Prop} {p : Int32} (h : ¬ mh_tr op p = 0) (hp : post (mh_tr op p) (th, vl, cg, op, sl, sc)) : wpY_commit post (th, vl, cg, op, sl, sc) p := by
  unfold wpY_commit
  dsimp only
  exact my_tr (br_f h hp)
theorem my_commit_o {post : Int32 → SY → Prop} {t : Nat} (ht : t < 4) (ho : ¬ op t = 0) (hn : ∀ r, r < 8 → vp_nar .boolean (th (8 * t + r)) = th (8 * t + r)) (h : post (mh_ct (bt (cg t)) 8) (mh_fl th 32 (fun r => th (8 * t + r)) (bt (cg t)) 8, mh_fl vl 32 (fun r => vl (8 * t + r)) (bt (cg t)) 8, cg, upd op t 0, mh_fl sl 0 (fun j => sl j ||| cg t) mh_T 4, sc)) : wpY_commit post (th, vl, cg, op, sl, sc) (nI t) := by
  unfold wpY_commit
  dsimp only
  have g := my_c14 ht ho hn h 8 0 9 (by omega) (by omega)
  rw [mh_fl0, mh_fl0] at g
  exact my_tr (br_t (mh_trk ht ho) ⟨9, g⟩)
theorem my_crl {post : Int32 → SY → Prop} (h : post (mh_ct (fun t => !decide (op t = 0)) 4) (th, vl, cg, mh_fl op 0 (fun _ => 0) mh_T 4, sl, sc)) : ∀ d i n : Nat, i + d = 4 → d < n → wY_crash_4 post n (mh_ct (fun t => !decide (op t = 0)) i) (nI i) th vl cg (mh_fl op 0 (fun _ => 0) mh_T i) sl sc := by
  intro d
  induction d with
  | zero =>
    intro i n hi hn
    obtain ⟨n, rfl⟩ : ∃ k, n = k + 1 := ⟨n - 1, by omega⟩
    obtain rfl : i = 4 := by omega
    exact br_t mh_e4 h
  | succ d ih =>
    intro i n hi hn
    obtain ⟨n, rfl⟩ : ∃ k, n = k + 1 := ⟨n - 1, by omega⟩
    have g := ih (i + 1) n (by omega) (by omega)
    rw [← mh_flS0 rfl] at g
    rw [wY_crash_4]
    dsimp only
    unfold wY_crash_25
    rw [nI_clamp (n := i) (by omega), mh_flo (j := i) (by omega), mh_n0]
    have hi : vp_in (nI i) 4 := vp_in_nI (by omega) (by decide)
    refine br_f (mh_g4 (by omega)) ⟨hi, ?_⟩
    by_cases ho : op i = 0
    · rw [mh_ctf (by rw [decide_eq_true ho]; rfl)] at g
      exact br_t ho ⟨hi, nm_e (nm_r (nI_1 i) g)⟩
    · rw [mh_ctt (by rw [decide_eq_false ho]; rfl)] at g
      exact br_f ho ⟨hi, nm_e (nm_r (nI_1 i) g)⟩
theorem my_crash {post : Int32 → SY → Prop} (h : post (mh_ct (fun t => !decide (op t = 0)) 4) (th, vl, cg, mh_fl op 0 (fun _ => 0) mh_T 4, sl, sc)) : wpY_crash post (th, vl, cg, op, sl, sc) := by
  unfold wpY_crash
  dsimp only
  have g := my_crl h 4 0 5 (by omega) (by omega)
  rw [mh_fl0] at g
  exact ⟨5, g⟩
theorem my_committed_r {post : Int32 → Prop} {q : Int32} (h : q < 0 ∨ 8 ≤ q) (hp : post 0) : wpY_committed post (th, vl, cg, op, sl, sc) q := by
  unfold wpY_committed
  dsimp only
  by_cases h0 : q < 0
  · exact br_t h0 hp
  · refine br_f h0 (br_t ?_ hp)
    exact Int32.lt_of_lt_of_le (by decide) (h.resolve_left h0)
theorem my_committed_o {post : Int32 → Prop} {r : Nat} {b : Bool} (hr : r < 8) (hB : th (32 + r) = if b = true then 1 else 0) (hp : post (if b = true then vl (32 + r) else 0)) : wpY_committed post (th, vl, cg, op, sl, sc) (nI r) := by
  unfold wpY_committed
  dsimp only
  rw [mh_32, nI_clamp (n := 32 + r) (by omega)]
  have h1 : vp_in (nI (32 + r)) 136 := vp_in_nI (by omega) (by decide)
  refine br_f (nI_pos (by omega)) (br_f (nI_nlt (a := 7) (b := r) (by omega) (by omega)) ⟨h1, ?_⟩)
  cases hb : b
  · rw [if_neg (mh_nt hb)] at hp; exact br_t (my_b0 hB hb) hp
  · rw [if_pos hb] at hp; exact br_f (my_b1 hB hb) ⟨h1, hp⟩
theorem my_rwl {post : Int32 → Prop} {m : Nat → Bool} (hB : ∀ r, r < 8 → th (32 + r) = if m r = true then 1 else 0) (h : post (mh_ct m 8)) : ∀ d i n : Nat, i + d = 8 → d < n → wY_rows_4 post th vl cg op sl sc n (mh_ct m i) (nI i) := by
  intro d
  induction d with
  | zero =>
    intro i n hi hn
    obtain ⟨n, rfl⟩ : ∃ k, n = k + 1 := ⟨n - 1, by omega⟩
    obtain rfl : i = 8 := by omega
    exact br_t mh_e8 h
  | succ d ih =>
    intro i n hi hn
    obtain ⟨n, rfl⟩ : ∃ k, n = k + 1 := ⟨n - 1, by omega⟩
    have g := ih (i + 1) n (by omega) (by omega)
    rw [wY_rows_4]
    dsimp only
    rw [mh_32, nI_clamp (n := 32 + i) (by omega)]
    refine br_f (mh_g8 (by omega)) ⟨vp_in_nI (by omega) (by decide), ?_⟩
    cases hb : m i
    · rw [mh_ctf hb] at g
      exact br_t (my_b0 (hB i (by omega)) hb) (nm_r (nI_1 i) g)
    · rw [mh_ctt hb] at g
      exact br_f (my_b1 (hB i (by omega)) hb) (nm_e (nm_r (nI_1 i) g))
theorem my_rows {post : Int32 → Prop} {m : Nat → Bool} (hB : ∀ r, r < 8 → th (32 + r) = if m r = true then 1 else 0) (h : post (mh_ct m 8)) : wpY_rows post (th, vl, cg, op, sl, sc) := by
  unfold wpY_rows
  exact ⟨9, my_rwl hB h 8 0 9 (by omega) (by omega)⟩
end
end
section
/-! ===== the relation, and how the writes keep it ===== -/
/-- slot k of the reference (8 cells of there, 8 of values) against a set s and values f of the class -/
def mh_S (s : Int32) (f th vl : Nat → Int32) (k : Nat) : Prop := ∀ r, r < 8 → (th (8 * k + r) = if bt s r = true then 1 else 0) ∧ (bt s r = true → vl (8 * k + r) = f r)
def mh_R (c : Int32) (cv st sv ch sc dt dc dv th vl cg : Nat → Int32) : Prop :=
  (∀ t, t < 4 → mh_S (st t) (fun r => sv (8 * t + r)) th vl t) ∧ mh_S c cv th vl 4 ∧ (∀ j, j < 12 → mh_S (dt j) (fun r => dv (8 * j + r)) th vl (5 + j)) ∧ (∀ t, t < 4 → cg t = ch t) ∧ (∀ j, j < 12 → cg (5 + j) = dc j) ∧ (∀ t, t < 4 → ∃ n : Nat, n ≤ 3 ∧ sc t = nI n)
/-- slot b is overwritten by slot a: slot b stands as a did -/
theorem mr_cp {s : Int32} {f th vl : Nat → Int32} {a b : Nat} (h : mh_S s f th vl a) : mh_S s f (mh_fl th (8 * b) (fun r => th (8 * a + r)) mh_T 8) (mh_fl vl (8 * b) (fun r => vl (8 * a + r)) mh_T 8) b := by
  intro r hr
  rw [mh_flT hr, mh_flT hr]
  exact h r hr
/-- .. and every other slot stays -/
theorem mr_ck {s : Int32} {f th vl g1 g2 : Nat → Int32} {m1 m2 : Nat → Bool} {k b : Nat} (hb : k ≠ b) (h : mh_S s f th vl k) : mh_S s f (mh_fl th (8 * b) g1 m1 8) (mh_fl vl (8 * b) g2 m2 8) k := by
  intro r hr
  rw [mh_flo (by omega), mh_flo (by omega)]
  exact h r hr
theorem mr_cf {s s' : Int32} {f f' th vl : Nat → Int32} {k : Nat} (hs : s' = s) (hf : ∀ r, r < 8 → f' r = f r) (h : mh_S s f th vl k) : mh_S s' f' th vl k := by
  subst hs
  intro r hr
  rw [hf r hr]
  exact h r hr
/-- one cell of slot t is written: the other slots stay -/
theorem mr_uk {s x y : Int32} {f th vl : Nat → Int32} {k t r : Nat} (hr : r < 8) (hb : k ≠ t) (h : mh_S s f th vl k) : mh_S s f (upd th (8 * t + r) x) (upd vl (8 * t + r) y) k := by
  intro q hq
  rw [pk_un (by omega), pk_un (by omega)]
  exact h q hq
/-- .. slot t itself -/
theorem mr_us {s s' x y : Int32} {f f' th vl : Nat → Int32} {t r : Nat} (h : mh_S s f th vl t) (hx : x = if bt s' r = true then 1 else 0) (hy : bt s' r = true → y = f' r) (hs : ∀ q, q < 8 → q ≠ r → bt s' q = bt s q) (hf : ∀ q, q < 8 → q ≠ r → f' q = f q) : mh_S s' f' (upd th (8 * t + r) x) (upd vl (8 * t + r) y) t := by
  intro q hq
  by_cases e : q = r
  · subst e
    rw [pk_us, pk_us]
    exact ⟨hx, hy⟩
  · rw [pk_un (by omega), pk_un (by omega), hs q hq e, hf q hq e]
    exact h q hq
theorem mr_nar {s : Int32} {f th vl : Nat → Int32} {k : Nat} (h : mh_S s f th vl k) : ∀ r, r < 8 → vp_nar .boolean (th (8 * k + r)) = th (8 * k + r) := fun r hr => my_bn (h r hr).1
section
variable {c : Int32} {cv st sv ch sc dt dc dv th vl cg : Nat → Int32}
theorem mr_B (R : mh_R c cv st sv ch sc dt dc dv th vl cg) : ∀ t, t < 4 → ∀ r, r < 8 → th (8 * t + r) = if bt (st t) r = true then 1 else 0 := fun t ht r hr => (R.1 t ht r hr).1
theorem mr_C (R : mh_R c cv st sv ch sc dt dc dv th vl cg) : ∀ t, t < 4 → cg t = ch t := R.2.2.2.1
theorem mr_open (R : mh_R c cv st sv ch sc dt dc dv th vl cg) {t : Nat} (ht : t < 4) : mh_R c cv (upd st t c) (mh_fl sv (8 * t) cv mh_T 8) (upd ch t 0) (upd sc t 0) dt dc dv (mh_fl th (8 * t) (fun r => th (8 * 4 + r)) mh_T 8) (mh_fl vl (8 * t) (fun r => vl (8 * 4 + r)) mh_T 8) (upd (upd cg t (cg 4)) t 0) := by
  obtain ⟨hA, hB, hC, hD, hE, hF⟩ := R
  refine ⟨fun k hk => ?_, mr_ck (by omega) hB, fun j hj => mr_ck (by omega) (hC j hj), fun k hk => ?_, fun j hj => ?_, fun k hk => ?_⟩
  · by_cases e : k = t
    · subst e
      rw [pk_us]
      exact mr_cf rfl (fun r hr => mh_flT hr) (mr_cp hB)
    · rw [pk_un e]
      exact mr_cf rfl (fun r hr => mh_flo (by omega)) (mr_ck e (hA k hk))
  · by_cases e : k = t
    · subst e; rw [pk_us, pk_us]
    · rw [pk_un e, pk_un e, pk_un e]; exact hD k hk
  · rw [pk_un (by omega), pk_un (by omega)]; exact hE j hj
  · by_cases e : k = t
    · subst e; rw [pk_us]; exact ⟨0, by omega, rfl⟩
    · rw [pk_un e]; exact hF k hk
/-- a write of row r of slot t, the changes marked on both sides -/
theorem mr_cell (R : mh_R c cv st sv ch sc dt dc dv th vl cg) {t r : Nat} {s' x y z : Int32} {sv' : Nat → Int32} (ht : t < 4) (hr : r < 8) (hx : x = if bt s' r = true then 1 else 0) (hy : bt s' r = true → y = sv' (8 * t + r)) (hs : ∀ q, q < 8 → q ≠ r → bt s' q = bt (st t) q) (hf : ∀ q, q ≠ 8 * t + r → sv' q = sv q) : mh_R c cv (upd st t s') sv' (upd ch t (ch t ||| z)) sc dt dc dv (upd th (8 * t + r) x) (upd vl (8 * t + r) y) (upd cg t (cg t ||| z)) := by
  obtain ⟨hA, hB, hC, hD, hE, hF⟩ := R
  refine ⟨fun k hk => ?_, mr_uk hr (by omega) hB, fun j hj => mr_uk hr (by omega) (hC j hj), fun k hk => ?_, fun j hj => ?_, hF⟩
  · by_cases e : k = t
    · subst e
      rw [pk_us]
      exact mr_us (hA k hk) hx hy hs (fun q hq hn => hf _ (by omega))
    · rw [pk_un e]
      exact mr_cf rfl (fun q hq => hf _ (by omega)) (mr_uk hr e (hA k hk))
  · by_cases e : k = t
    · subst e; rw [pk_us, pk_us, hD k hk]
    · rw [pk_un e, pk_un e]; exact hD k hk
  · rw [pk_un (by omega)]; exact hE j hj
theorem mr_save (R : mh_R c cv st sv ch sc dt dc dv th vl cg) {t k : Nat} (ht : t < 4) (hk : k < 3) : mh_R c cv st sv ch (upd sc t (nI k + 1)) (upd dt (3 * t + k) (st t)) (upd dc (3 * t + k) (ch t)) (mh_fl dv (8 * (3 * t + k)) (fun r => sv (8 * t + r)) mh_T 8) (mh_fl th (8 * (5 + (3 * t + k))) (fun r => th (8 * t + r)) mh_T 8) (mh_fl vl (8 * (5 + (3 * t + k))) (fun r => vl (8 * t + r)) mh_T 8) (upd cg (5 + (3 * t + k)) (cg t)) := by
  obtain ⟨hA, hB, hC, hD, hE, hF⟩ := R
  refine ⟨fun i hi => mr_ck (by omega) (hA i hi), mr_ck (by omega) hB, fun j hj => ?_, fun i hi => ?_, fun j hj => ?_, fun i hi => ?_⟩
  · by_cases e : j = 3 * t + k
    · subst e
      rw [pk_us]
      exact mr_cf rfl (fun r hr => mh_flT hr) (mr_cp (hA t ht))
    · rw [pk_un e]
      exact mr_cf rfl (fun r hr => mh_flo (by omega)) (mr_ck (by omega) (hC j hj))
  · rw [pk_un (by omega)]; exact hD i hi
  · by_cases e : j = 3 * t + k
    · subst e; rw [pk_us, pk_us]; exact hD t ht
    · rw [pk_un e, pk_un (by omega)]; exact hE j hj
  · by_cases e : i = t
    · subst e; rw [pk_us]; exact ⟨k + 1, by omega, nI_1 k⟩
    · rw [pk_un e]; exact hF i hi
theorem mr_back (R : mh_R c cv st sv ch sc dt dc dv th vl cg) {t k : Nat} (ht : t < 4) (hk : k < 3) : mh_R c cv (upd st t (dt (3 * t + k))) (mh_fl sv (8 * t) (fun r => dv (8 * (3 * t + k) + r)) mh_T 8) (upd ch t (dc (3 * t + k))) (upd sc t (nI k)) dt dc dv (mh_fl th (8 * t) (fun r => th (8 * (5 + (3 * t + k)) + r)) mh_T 8) (mh_fl vl (8 * t) (fun r => vl (8 * (5 + (3 * t + k)) + r)) mh_T 8) (upd cg t (cg (5 + (3 * t + k)))) := by
  obtain ⟨hA, hB, hC, hD, hE, hF⟩ := R
  refine ⟨fun i hi => ?_, mr_ck (by omega) hB, fun j hj => mr_ck (by omega) (hC j hj), fun i hi => ?_, fun j hj => ?_, fun i hi => ?_⟩
  · by_cases e : i = t
    · subst e
      rw [pk_us]
      exact mr_cf rfl (fun r hr => mh_flT hr) (mr_cp (hC (3 * i + k) (by omega)))
    · rw [pk_un e]
      exact mr_cf rfl (fun r hr => mh_flo (by omega)) (mr_ck e (hA i hi))
  · by_cases e : i = t
    · subst e; rw [pk_us, pk_us]; exact hE _ (by omega)
    · rw [pk_un e, pk_un e]; exact hD i hi
  · rw [pk_un (by omega)]; exact hE j hj
  · by_cases e : i = t
    · subst e; rw [pk_us]; exact ⟨k, by omega, rfl⟩
    · rw [pk_un e]; exact hF i hi
theorem mr_commit (R : mh_R c cv st sv ch sc dt dc dv th vl cg) {t : Nat} (ht : t < 4) : mh_R ((c &&& (ch t ^^^ (-1))) ||| (st t &&& ch t)) (mh_fl cv 0 (fun r => sv (8 * t + r)) (bt (ch t)) 8) st sv ch sc dt dc dv (mh_fl th 32 (fun r => th (8 * t + r)) (bt (ch t)) 8) (mh_fl vl 32 (fun r => vl (8 * t + r)) (bt (ch t)) 8) cg := by
  obtain ⟨hA, hB, hC, hD, hE, hF⟩ := R
  refine ⟨fun i hi => mr_ck (b := 4) (by omega) (hA i hi), fun r hr => ?_, fun j hj => mr_ck (b := 4) (by omega) (hC j hj), hD, hE, hF⟩
  have e := mh_fli (f := cv) (b := 0) (g := fun r => sv (8 * t + r)) (m := bt (ch t)) (n := 8) hr
  rw [Nat.zero_add] at e
  rw [mh_mix c (st t) (ch t) hr, e]
  show (mh_fl th 32 (fun r => th (8 * t + r)) (bt (ch t)) 8 (32 + r) = _) ∧ (_ → mh_fl vl 32 (fun r => vl (8 * t + r)) (bt (ch t)) 8 (32 + r) = _)
  rw [mh_fli hr, mh_fli hr]
  cases hb : bt (ch t) r
  · exact hB r hr
  · exact hA t ht r hr
end
end
section
/-! ===== what is owed ===== -/
/-- isOpen, stale, saves are the same functions; the rest by mh_R -/
def i_Rel (_ : Nat) (u : SX) (v : SY) : Prop := ∃ (c : Int32) (cv op st sv ch sl sc dt dc dv th vl cg : Nat → Int32), u = (c, cv, op, st, sv, ch, sl, sc, dt, dc, dv) ∧ v = (th, vl, cg, op, sl, sc) ∧ mh_R c cv st sv ch sc dt dc dv th vl cg
theorem mr_i {k : Nat} {c : Int32} {cv op st sv ch sl sc dt dc dv th vl cg : Nat → Int32} (R : mh_R c cv st sv ch sc dt dc dv th vl cg) : i_Rel k (c, cv, op, st, sv, ch, sl, sc, dt, dc, dv) (th, vl, cg, op, sl, sc) := ⟨c, cv, op, st, sv, ch, sl, sc, dt, dc, dv, th, vl, cg, rfl, rfl, R⟩
theorem mr_self (f : Nat → Int32) (k : Nat) : upd f k (f k) = f := by
  funext j
  by_cases e : j = k
  · subst e; exact pk_us
  · exact pk_un e
theorem mr_0 : mh_R 0 (fun _ => 0) (fun _ => 0) (fun _ => 0) (fun _ => 0) (fun _ => 0) (fun _ => 0) (fun _ => 0) (fun _ => 0) (fun _ => 0) (fun _ => 0) (fun _ => 0) := by
  have h : ∀ k, mh_S 0 (fun _ => 0) (fun _ => 0) (fun _ => 0) k := fun k r _ => ⟨by rw [b_0]; rfl, fun _ => rfl⟩
  exact ⟨fun t _ => h t, h 4, fun j _ => h (5 + j), fun _ _ => rfl, fun _ _ => rfl, fun _ _ => ⟨0, by omega, rfl⟩⟩
theorem i_up {k : Nat} {u : SX} {v : SY} (h : i_Rel k u v) : i_Rel (k + 4) u v := h
theorem i_vc0 : wpX_init (fun u => wpY_init (fun v => i_Rel 0 u v)) := mr_i (k := 0) mr_0
theorem i_vc_open {k : Nat} {u : SX} {v : SY} (I : i_Rel k u v) (hk : k + 4 ≤ 2048) (v1 : Int32) : wpX_open (fun r u' => wpY_open (fun r' v' => r' = r ∧ i_Rel (k + 4) u' v') v v1) u v1 := by
  obtain ⟨c, cv, op, st, sv, ch, sl, sc, dt, dc, dv, th, vl, cg, rfl, rfl, R⟩ := I
  by_cases h2 : mh_tr op v1 = -2
  · obtain ⟨t, ht, rfl, ho⟩ := mh_tr2 h2
    exact mx_open_o ht ho (my_open_o ht ho (mr_nar R.2.1) ⟨rfl, mr_i (mr_open R ht)⟩)
  · by_cases h : mh_tr op v1 = 0
    · obtain ⟨t, ht, rfl, ho⟩ := mh_tr0 h
      exact mx_open_c ht ho (my_open_c h ⟨rfl, mr_i R⟩)
    · obtain ⟨hb, e⟩ := mh_tr1 h h2
      exact mx_open_b hb (my_open_b h h2 ⟨e, mr_i R⟩)
theorem i_vc_put {k : Nat} {u : SX} {v : SY} (I : i_Rel k u v) (hk : k + 4 ≤ 2048) (v1 : Int32) (v2 : Int32) (v3 : Int32) : wpX_put (fun r u' => wpY_put (fun r' v' => r' = r ∧ i_Rel (k + 4) u' v') v v1 v2 v3) u v1 v2 v3 := by
  obtain ⟨c, cv, op, st, sv, ch, sl, sc, dt, dc, dv, th, vl, cg, rfl, rfl, R⟩ := I
  by_cases h : mh_pf op ch sl v1 v2 = 0
  · obtain ⟨t, r, ht, hr, rfl, rfl, ho, hc⟩ := mh_pf0 h
    refine mx_put_o ht hr h (my_put_o (mr_C R) (mr_B R) ht hr h ⟨rfl, mr_i (mr_cell R ht hr ?_ ?_ ?_ ?_)⟩)
    · rw [mh_set (st t) hr hr, decide_eq_true rfl, Bool.or_true, if_pos rfl]
    · exact fun _ => pk_us.symm
    · intro q hq hn
      rw [mh_set (st t) hr hq, decide_eq_false hn, Bool.or_false]
    · exact fun q hq => pk_un hq
  · exact mx_put_r h (my_put_r (mr_C R) h ⟨rfl, mr_i R⟩)
theorem i_vc_add {k : Nat} {u : SX} {v : SY} (I : i_Rel k u v) (hk : k + 4 ≤ 2048) (v1 : Int32) (v2 : Int32) (v3 : Int32) : wpX_add (fun r u' => wpY_add (fun r' v' => r' = r ∧ i_Rel (k + 4) u' v') v v1 v2 v3) u v1 v2 v3 := by
  obtain ⟨c, cv, op, st, sv, ch, sl, sc, dt, dc, dv, th, vl, cg, rfl, rfl, R⟩ := I
  by_cases h : mh_ef op st ch sl v1 v2 = 0
  · obtain ⟨t, r, ht, hr, rfl, rfl, ho, hb⟩ := mh_ef0 h
    have g := mr_cell (s' := st t) (x := 1) (y := vl (8 * t + r) + v3) (z := ((1 : Int32) <<< (nI r &&& 31))) (sv' := upd sv (8 * t + r) (sv (8 * t + r) + v3)) R ht hr (by rw [if_pos hb]) (fun _ => by rw [pk_us, (R.1 t ht r hr).2 hb]) (fun _ _ _ => rfl) (fun q hq => pk_un hq)
    rw [mr_self] at g
    exact mx_add_o ht hr h (my_add_o (mr_C R) (mr_B R) ht hr h ⟨rfl, mr_i g⟩)
  · exact mx_add_r h (my_add_r (mr_C R) (mr_B R) h ⟨rfl, mr_i R⟩)
theorem i_vc_drop {k : Nat} {u : SX} {v : SY} (I : i_Rel k u v) (hk : k + 4 ≤ 2048) (v1 : Int32) (v2 : Int32) : wpX_drop (fun r u' => wpY_drop (fun r' v' => r' = r ∧ i_Rel (k + 4) u' v') v v1 v2) u v1 v2 := by
  obtain ⟨c, cv, op, st, sv, ch, sl, sc, dt, dc, dv, th, vl, cg, rfl, rfl, R⟩ := I
  by_cases h : mh_ef op st ch sl v1 v2 = 0
  · obtain ⟨t, r, ht, hr, rfl, rfl, ho, hb⟩ := mh_ef0 h
    have hf : bt (st t &&& (((1 : Int32) <<< (nI r &&& 31)) ^^^ (-1))) r = false := by
      rw [mh_clr (st t) hr hr, decide_eq_true rfl, Bool.not_true, Bool.and_false]
    refine mx_drop_o ht hr h (my_drop_o (mr_C R) (mr_B R) ht hr h ⟨rfl, mr_i (mr_cell R ht hr ?_ ?_ ?_ ?_)⟩)
    · rw [if_neg (mh_nt hf)]
    · exact fun z => absurd z (mh_nt hf)
    · intro q hq hn
      rw [mh_clr (st t) hr hq, decide_eq_false hn, Bool.not_false, Bool.and_true]
    · exact fun q hq => rfl
  · exact mx_drop_r h (my_drop_r (mr_C R) (mr_B R) h ⟨rfl, mr_i R⟩)
theorem i_vc_get {k : Nat} {u : SX} {v : SY} (I : i_Rel k u v) (hk : k + 4 ≤ 2048) (v1 : Int32) (v2 : Int32) : wpX_get (fun r => wpY_get (fun r' => r' = r ∧ i_Rel (k + 4) u v) v v1 v2) u v1 v2 := by
  obtain ⟨c, cv, op, st, sv, ch, sl, sc, dt, dc, dv, th, vl, cg, rfl, rfl, R⟩ := I
  by_cases h : mh_rr op v1 v2 = 0
  · obtain ⟨t, r, ht, hr, rfl, rfl, ho⟩ := mh_rr0 h
    refine mx_get_o ht hr ho (my_get_o ht hr ho (mr_B R t ht r hr) ⟨?_, mr_i R⟩)
    cases hb : bt (st t) r
    · rfl
    · exact (R.1 t ht r hr).2 hb
  · exact mx_get_r h (my_get_r h ⟨rfl, mr_i R⟩)
theorem i_vc_has {k : Nat} {u : SX} {v : SY} (I : i_Rel k u v) (hk : k + 4 ≤ 2048) (v1 : Int32) (v2 : Int32) : wpX_has (fun r => wpY_has (fun r' => r' = r ∧ i_Rel (k + 4) u v) v v1 v2) u v1 v2 := by
  obtain ⟨c, cv, op, st, sv, ch, sl, sc, dt, dc, dv, th, vl, cg, rfl, rfl, R⟩ := I
  by_cases h : mh_rr op v1 v2 = 0
  · obtain ⟨t, r, ht, hr, rfl, rfl, ho⟩ := mh_rr0 h
    exact mx_has_o ht hr ho (my_has_o ht hr ho (mr_B R t ht r hr) ⟨rfl, mr_i R⟩)
  · exact mx_has_r h (my_has_r h ⟨rfl, mr_i R⟩)
theorem i_vc_count {k : Nat} {u : SX} {v : SY} (I : i_Rel k u v) (hk : k + 4 ≤ 2048) (v1 : Int32) : wpX_count (fun r => wpY_count (fun r' => r' = r ∧ i_Rel (k + 4) u v) v v1) u v1 := by
  obtain ⟨c, cv, op, st, sv, ch, sl, sc, dt, dc, dv, th, vl, cg, rfl, rfl, R⟩ := I
  by_cases h : mh_tr op v1 = 0
  · obtain ⟨t, ht, rfl, ho⟩ := mh_tr0 h
    exact mx_count_o ht ho (my_count_o ht ho (mr_B R t ht) ⟨rfl, mr_i R⟩)
  · exact mx_count_r h (my_count_r h ⟨rfl, mr_i R⟩)
theorem i_vc_sum {k : Nat} {u : SX} {v : SY} (I : i_Rel k u v) (hk : k + 4 ≤ 2048) (v1 : Int32) : wpX_sum (fun r => wpY_sum (fun r' => r' = r ∧ i_Rel (k + 4) u v) v v1) u v1 := by
  obtain ⟨c, cv, op, st, sv, ch, sl, sc, dt, dc, dv, th, vl, cg, rfl, rfl, R⟩ := I
  by_cases h : mh_tr op v1 = 0
  · obtain ⟨t, ht, rfl, ho⟩ := mh_tr0 h
    refine mx_sum_o ht ho (my_sum_o ht ho (mr_B R t ht) ⟨mh_smc (fun r hr => ?_), mr_i R⟩)
    cases hb : bt (st t) r
    · rfl
    · exact (R.1 t ht r hr).2 hb
  · exact mx_sum_r h (my_sum_r h ⟨rfl, mr_i R⟩)
theorem i_vc_find {k : Nat} {u : SX} {v : SY} (I : i_Rel k u v) (hk : k + 4 ≤ 2048) (v1 : Int32) (v2 : Int32) (v3 : Int32) : wpX_find (fun r => wpY_find (fun r' => r' = r ∧ i_Rel (k + 4) u v) v v1 v2 v3) u v1 v2 v3 := by
  obtain ⟨c, cv, op, st, sv, ch, sl, sc, dt, dc, dv, th, vl, cg, rfl, rfl, R⟩ := I
  by_cases h : mh_tr op v1 = 0
  · obtain ⟨t, ht, rfl, ho⟩ := mh_tr0 h
    exact mx_find_o ht ho (my_find_o ht ho (mr_B R t ht) (fun r hr => (R.1 t ht r hr).2) ⟨rfl, mr_i R⟩)
  · exact mx_find_r h (my_find_r h ⟨rfl, mr_i R⟩)
theorem i_vc_changed {k : Nat} {u : SX} {v : SY} (I : i_Rel k u v) (hk : k + 4 ≤ 2048) (v1 : Int32) : wpX_changed (fun r => wpY_changed (fun r' => r' = r ∧ i_Rel (k + 4) u v) v v1) u v1 := by
  obtain ⟨c, cv, op, st, sv, ch, sl, sc, dt, dc, dv, th, vl, cg, rfl, rfl, R⟩ := I
  by_cases h : mh_tr op v1 = 0
  · obtain ⟨t, ht, rfl, ho⟩ := mh_tr0 h
    exact mx_changed_o ht ho (my_changed_o ht ho ⟨mr_C R t ht, mr_i R⟩)
  · exact mx_changed_r h (my_changed_r h ⟨rfl, mr_i R⟩)
theorem i_vc_save {k : Nat} {u : SX} {v : SY} (I : i_Rel k u v) (hk : k + 4 ≤ 2048) (v1 : Int32) : wpX_save (fun r u' => wpY_save (fun r' v' => r' = r ∧ i_Rel (k + 4) u' v') v v1) u v1 := by
  obtain ⟨c, cv, op, st, sv, ch, sl, sc, dt, dc, dv, th, vl, cg, rfl, rfl, R⟩ := I
  by_cases h : mh_tr op v1 = 0
  · obtain ⟨t, ht, rfl, ho⟩ := mh_tr0 h
    obtain ⟨m, hm, hs⟩ := R.2.2.2.2.2 t ht
    by_cases e : m = 3
    · subst e
      exact mx_save_f ht ho hs (my_save_f ht ho hs ⟨rfl, mr_i R⟩)
    · have hm3 : m < 3 := by omega
      exact mx_save_o ht ho hm3 hs (my_save_o ht ho hm3 hs (mr_nar (R.1 t ht)) ⟨rfl, mr_i (mr_save R ht hm3)⟩)
  · exact mx_save_r h (my_save_r h ⟨rfl, mr_i R⟩)
theorem i_vc_back {k : Nat} {u : SX} {v : SY} (I : i_Rel k u v) (hk : k + 4 ≤ 2048) (v1 : Int32) : wpX_back (fun r u' => wpY_back (fun r' v' => r' = r ∧ i_Rel (k + 4) u' v') v v1) u v1 := by
  obtain ⟨c, cv, op, st, sv, ch, sl, sc, dt, dc, dv, th, vl, cg, rfl, rfl, R⟩ := I
  by_cases h : mh_tr op v1 = 0
  · obtain ⟨t, ht, rfl, ho⟩ := mh_tr0 h
    obtain ⟨m, hm, hs⟩ := R.2.2.2.2.2 t ht
    cases m with
    | zero => exact mx_back_z ht ho hs (my_back_z ht ho hs ⟨rfl, mr_i R⟩)
    | succ m =>
      have hm3 : m < 3 := by omega
      exact mx_back_o ht ho hm3 hs (my_back_o ht ho hm3 hs (mr_nar (R.2.2.1 (3 * t + m) (by omega))) ⟨rfl, mr_i (mr_back R ht hm3)⟩)
  · exact mx_back_r h (my_back_r h ⟨rfl, mr_i R⟩)
theorem i_vc_commit {k : Nat} {u : SX} {v : SY} (I : i_Rel k u v) (hk : k + 4 ≤ 2048) (v1 : Int32) : wpX_commit (fun r u' => wpY_commit (fun r' v' => r' = r ∧ i_Rel (k + 4) u' v') v v1) u v1 := by
  obtain ⟨c, cv, op, st, sv, ch, sl, sc, dt, dc, dv, th, vl, cg, rfl, rfl, R⟩ := I
  by_cases h : mh_tr op v1 = 0
  · obtain ⟨t, ht, rfl, ho⟩ := mh_tr0 h
    refine mx_commit_o ht ho (my_commit_o ht ho (mr_nar (R.1 t ht)) ?_)
    rw [mr_C R t ht]
    exact ⟨rfl, mr_i (mr_commit R ht)⟩
  · exact mx_commit_r h (my_commit_r h ⟨rfl, mr_i R⟩)
theorem i_vc_abort {k : Nat} {u : SX} {v : SY} (I : i_Rel k u v) (hk : k + 4 ≤ 2048) (v1 : Int32) : wpX_abort (fun r u' => wpY_abort (fun r' v' => r' = r ∧ i_Rel (k + 4) u' v') v v1) u v1 := by
  obtain ⟨c, cv, op, st, sv, ch, sl, sc, dt, dc, dv, th, vl, cg, rfl, rfl, R⟩ := I
  by_cases h : mh_tr op v1 = 0
  · obtain ⟨t, ht, rfl, ho⟩ := mh_tr0 h
    refine mx_abort_o ht ho (my_abort_o ht ho ?_)
    rw [mr_C R t ht]
    exact ⟨rfl, mr_i R⟩
  · exact mx_abort_r h (my_abort_r h ⟨rfl, mr_i R⟩)
theorem i_vc_crash {k : Nat} {u : SX} {v : SY} (I : i_Rel k u v) (hk : k + 4 ≤ 2048) : wpX_crash (fun r u' => wpY_crash (fun r' v' => r' = r ∧ i_Rel (k + 4) u' v') v) u := by
  obtain ⟨c, cv, op, st, sv, ch, sl, sc, dt, dc, dv, th, vl, cg, rfl, rfl, R⟩ := I
  exact mx_crash (my_crash ⟨rfl, mr_i R⟩)
theorem i_vc_committed {k : Nat} {u : SX} {v : SY} (I : i_Rel k u v) (hk : k + 4 ≤ 2048) (v1 : Int32) : wpX_committed (fun r => wpY_committed (fun r' => r' = r ∧ i_Rel (k + 4) u v) v v1) u v1 := by
  obtain ⟨c, cv, op, st, sv, ch, sl, sc, dt, dc, dv, th, vl, cg, rfl, rfl, R⟩ := I
  refine mx_committed (fun z => my_committed_r z ⟨rfl, mr_i R⟩) (fun r hr e => ?_)
  subst e
  refine my_committed_o hr (R.2.1 r hr).1 ⟨?_, mr_i R⟩
  cases hb : bt c r
  · rfl
  · exact (R.2.1 r hr).2 hb
theorem i_vc_rows {k : Nat} {u : SX} {v : SY} (I : i_Rel k u v) (hk : k + 4 ≤ 2048) : wpX_rows (fun r => wpY_rows (fun r' => r' = r ∧ i_Rel (k + 4) u v) v) u := by
  obtain ⟨c, cv, op, st, sv, ch, sl, sc, dt, dc, dv, th, vl, cg, rfl, rfl, R⟩ := I
  exact mx_rows (my_rows (fun r hr => (R.2.1 r hr).1) ⟨rfl, mr_i R⟩)
theorem i_vc_vacuum {k : Nat} {u : SX} {v : SY} (I : i_Rel k u v) (hk : k + 4 ≤ 2048) : wpX_vacuum (fun u' => wpY_vacuum (fun v' => i_Rel (k + 4) u' v') v) u := by
  obtain ⟨c, cv, op, st, sv, ch, sl, sc, dt, dc, dv, th, vl, cg, rfl, rfl, R⟩ := I
  exact mr_i (k := k + 4) R
theorem i_vc_flush {k : Nat} {u : SX} {v : SY} (I : i_Rel k u v) (hk : k + 4 ≤ 2048) : wpX_flush (fun u' => wpY_flush (fun v' => i_Rel (k + 4) u' v') v) u := by
  obtain ⟨c, cv, op, st, sv, ch, sl, sc, dt, dc, dv, th, vl, cg, rfl, rfl, R⟩ := I
  exact mr_i (k := k + 4) R
end

/-! The law's relation of the class's state and the two arrays; its acts, but for the loops. -/
theorem bi2_s {α β γ : Type} (a : α) (b : β) (f : α → β → Option γ) : bi2 (some (a, b)) f = f a b := rfl
theorem bt0_r {α β γ : Type} (s : α) (b : β) (f : β → Option (α × (Nat ⊕ γ))) : bt0 s (.inr b) f = f b := rfl
theorem bt2_r {α β γ : Type} (s : α) (b : β) (f : α → β → Option (α × (Nat ⊕ γ))) : bt2 (some (s, .inr b)) f = f s b := rfl
theorem at_ok (x : Int32) {n : Nat} (h0 : 0 < n) (hn : n < 2 ^ 31) : ∃ r, r < n ∧ fL_at x (nI n) = some (nI r) := by
  have hx := x.toBitVec.isLt
  obtain ⟨m, hm, e⟩ : ∃ m, m < 2 ^ 31 ∧ ((x).toUInt32 >>> (((1 : Int32)).toUInt32 &&& Int32.toUInt32 31)).toInt32 = nI m := by
    refine ⟨x.toBitVec.toNat / 2 ^ 1, by omega, ?_⟩
    apply Int32.toBitVec_inj.mp
    apply BitVec.eq_of_toNat_eq
    rw [pk_ushr x 1 1 (by decide +kernel), bn (by omega)]
  refine ⟨m % n, Nat.mod_lt _ h0, ?_⟩
  unfold fL_at
  rw [if_neg (nI_ne0 h0 hn), e, md n hm h0 hn]
def b2 (k : Nat) : Nat := if k % 8 < 4 ∧ k < 24 then 9 else if k < 16 then 2 else if k = 24 then 1 else if k = 25 then 9 else 0
theorem b2_bd (k : Nat) : b2 k ≤ bd k := by
  unfold b2 bd
  repeat' split
  all_goals omega
def V2 (Z : Nat → Nat) : Prop := ∀ k, k < 26 → Z k ≤ b2 k
theorem V2.v {Z : Nat → Nat} (h : V2 Z) : VZ Z := fun k hk => Nat.le_trans (h k hk) (b2_bd k)
def NA (n : Nat → Int32) (Z : Nat → Nat) (Hs : List (Nat → Nat)) : Prop := n 0 = nI (Z 24) ∧ n 1 = nI (Z 25) ∧ n 2 = nI Hs.length
def PA (pr : Nat → Int32) (Z : Nat → Nat) : Prop := ∀ k, k < 24 → pr k = nI (Z k)
def RP (st : PS) : Prop := ∃ (Z : Nat → Nat) (Hs : List (Nat → Nat)), V2 Z ∧ CZ (p_c st) Z ∧ CH (p_c st) Hs ∧ EP (p_c st) Z ∧ LQ (p_c st) Z ∧ PA (p_pr st) Z ∧ NA (p_n st) Z Hs
theorem RP_new {c : CS} {pr n fd : Nat → Int32} {Z : Nat → Nat} {Hs : List (Nat → Nat)} (h1 : V2 Z) (h2 : CZ c Z) (h3 : CH c Hs) (h4 : c_eprep c = 0) (h5 : c_lprep c = 0) (h6 : PA pr Z) (h7 : NA n Z Hs) : RP (c, pr, n, fd) := ⟨Z, Hs, h1, h2, h3, Or.inl h4, Or.inl h5, h6, h7⟩
/-- one change more is told -/
theorem bump {α : Type} (K : (Nat → Int32) → α) {n : Nat → Int32} {Hs : List (Nat → Nat)} (Z : Nat → Nat) (h2 : n 2 = nI Hs.length) (hl : Hs.length ≤ 6) : ∃ n', (if (6 : Int32) ≤ n (2 : Int32).toNatClampNeg then K n else K (upd n (2 : Int32).toNatClampNeg (n (2 : Int32).toNatClampNeg + (1 : Int32)))) = K n' ∧ n' 0 = n 0 ∧ n' 1 = n 1 ∧ n' 2 = nI (psh Hs Z).length := by
  have e2 : n (2 : Int32).toNatClampNeg = nI Hs.length := h2
  rw [e2]
  by_cases q : Hs.length = 6
  · rw [q, if_pos (show (6 : Int32) ≤ nI 6 from Int32.le_refl _)]
    refine ⟨n, rfl, rfl, rfl, ?_⟩
    rw [h2, psh, if_pos q]
    simp [q]
  · rw [if_neg (show ¬ (6 : Int32) ≤ nI Hs.length from lge 6 (by omega)), nI_1]
    refine ⟨_, rfl, pk_un (by decide +kernel), pk_un (by decide +kernel), ?_⟩
    show upd n 2 (nI (Hs.length + 1)) 2 = _
    rw [pk_us, psh, if_neg q]
    simp
theorem PA_u {pr : Nat → Int32} {Z : Nat → Nat} (h : PA pr Z) (k v : Nat) : PA (upd pr k (nI v)) (uz Z k v) := by
  intro j hj
  unfold upd uz
  split
  · rfl
  · exact h j hj
theorem V2_u {Z : Nat → Nat} (h : V2 Z) {k v : Nat} (hv : v ≤ b2 k) : V2 (uz Z k v) := by
  intro j hj
  unfold uz
  split
  · rename_i e
    subst e
    exact hv
  · exact h j hj
section RA
variable {c : CS} {Z : Nat → Nat} {Hs : List (Nat → Nat)}
theorem constant_ok (h : CZ c Z) (hh : CH c Hs) {p f v : Nat} (hp : p < 3) (hf : f < 4) (hv : v < 10) : ∃ K o n, f4_constant c (nI p) (nI f) (nI v) = some (c_state_s (KS c K o n) (upd (c_state c) (8 * p + f) (nI v)), .inr (nI (Z (8 * p + f)))) ∧ CH (KS c K o n) (psh Hs Z) := by
  obtain ⟨K, o, n, e1, e2⟩ := change_ok h hh (k := 8 * p + f) (by omega) (nI v)
  refine ⟨K, o, n, ?_, e2⟩
  unfold f4_constant
  rw [show f4_needIndex (nI p) 3 = _ from ni_in 3 hp, bt0_r, show f4_needIndex (nI f) 4 = _ from ni_in 4 hf, bt0_r, show f4_needNumber (nI v) 0 9 = _ from nn_in 9 (by omega), bt0_r, e8', e1, bi2_s]
theorem variable_ok (h : CZ c Z) (hh : CH c Hs) {p f v : Nat} (hp : p < 2) (hf : f < 4) (hv : v < 6) : ∃ K o n, f4_variable c (nI p) (nI f) (nI v) = some (c_state_s (KS c K o n) (upd (c_state c) (8 * p + 4 + f) (nI v)), .inr (nI (Z (8 * p + 4 + f)))) ∧ CH (KS c K o n) (psh Hs Z) := by
  obtain ⟨K, o, n, e1, e2⟩ := change_ok h hh (k := 8 * p + 4 + f) (by omega) (nI v)
  refine ⟨K, o, n, ?_, e2⟩
  unfold f4_variable
  rw [show f4_needIndex (nI p) 2 = _ from ni_in 2 hp, bt0_r, show f4_needIndex (nI f) 4 = _ from ni_in 4 hf, bt0_r, show f4_needNumber (nI v) 0 5 = _ from nn_in 5 (by omega), bt0_r, show nI p * (8 : Int32) + (4 : Int32) + nI f = nI (8 * p + 4 + f) by rw [show nI p * (8 : Int32) + (4 : Int32) = nI (8 * p + 4) from e8' p 4, nI_add], e1, bi2_s]
theorem set_ok (h : CZ c Z) (hh : CH c Hs) {k v : Nat} (hk : k < 2) (hv : v ≤ bd (24 + k)) : ∃ K o n, f4_set c (nI k) (nI v) = some (c_state_s (KS c K o n) (upd (c_state c) (24 + k) (nI v)), .inr (nI (Z (24 + k)))) ∧ CH (KS c K o n) (psh Hs Z) := by
  obtain ⟨K, o, n, e1, e2⟩ := change_ok h hh (k := 24 + k) (by omega) (nI v)
  refine ⟨K, o, n, ?_, e2⟩
  obtain ⟨m, hm1, hm2, hm3⟩ : ∃ m, (if nI k = 0 then (1 : Int32) else 9) = nI m ∧ m = bd (24 + k) ∧ m < 10 := by
    rcases (show k = 0 ∨ k = 1 by omega) with rfl | rfl
    · exact ⟨1, rfl, rfl, by omega⟩
    · exact ⟨9, rfl, rfl, by omega⟩
  unfold f4_set
  rw [show f4_needIndex (nI k) 2 = _ from ni_in 2 hk, bt0_r, hm1, nn_in m (by omega), bt0_r, show (24 : Int32) + nI k = nI (24 + k) from nI_add 24 k, e1, bi2_s]
theorem times_ok (h : CZ c Z) {p f : Nat} (hp : p < 3) (hf : f < 8) : f4_times c (nI p) (nI f) = some (c, .inr (nI (Z (8 * p + f)))) := by
  unfold f4_times
  rw [show f4_needIndex (nI p) 3 = _ from ni_in 3 hp, bt0_r, show f4_needIndex (nI f) 8 = _ from ni_in 8 hf, bt0_r, e8', if_pos (ib_n (by omega) (by omega)), tn (by omega), h _ (by omega)]
theorem cancel_ok (h : CZ c Z) (hv : VZ Z) (hh : CH c Hs) {p q : Nat} (hp : p < 3) (hq : q < 3) : ∃ K o n s, f4_cancel c (nI p) (nI q) = some (c_state_s (KS c K o n) s, .inr (nI (sm (mn Z p q) 8))) ∧ CH (KS c K o n) (psh Hs Z) ∧ ∀ k, k < 26 → s k = nI (cz Z p q 8 k) := by
  obtain ⟨K, o, n, e1, e2⟩ := keep_c h hh
  obtain ⟨s, c1, c2⟩ := cancel_c (Y := KS c K o n) hp hq hv h
  refine ⟨K, o, n, s, ?_, e2, c2⟩
  unfold f4_cancel
  rw [show f4_needIndex (nI p) 3 = _ from ni_in 3 hp, bt0_r, show f4_needIndex (nI q) 3 = _ from ni_in 3 hq, bt0_r, e1, bi1_s, c1, bi1_s]
theorem fo_pz {p : Nat} (d : Nat → Nat) : fo (pz Z p d 8) p = sm d 8 := by
  unfold fo
  refine sm_congr (fun f hf => ?_)
  show (if 8 * p ≤ 8 * p + f ∧ 8 * p + f < 8 * p + 8 then d (8 * p + f - 8 * p) else _) = _
  rw [if_pos (by omega), show 8 * p + f - 8 * p = f by omega]
theorem multiply_ok (h : CZ c Z) (hv : VZ Z) (hh : CH c Hs) {p q : Nat} (hp : p < 3) (hq : q < 3) (hf : fits (ml Z p q) p) : ∃ g K o n s, f4_multiply c (nI p) (nI q) = some (c_state_s (KS (c_draft_s c g) K o n) s, .inr (nI (sm (ml Z p q) 8))) ∧ CH (KS (c_draft_s c g) K o n) (psh Hs Z) ∧ ∀ k, k < 26 → s k = nI (pz Z p (ml Z p q) 8 k) := by
  obtain ⟨g, g1, g2⟩ := multiply_c hp hq h
  have hb : ∀ i, i < 8 → ml Z p q i < 10000 := fun i hi => by
    have b1 := hv.le9 (k := 8 * p + i) (by omega)
    have b2 := hv.le9 (k := 8 * q + i) (by omega)
    unfold ml
    omega
  obtain ⟨K, o, n, s, e1, e2, e3⟩ := putDraft_ok (st := c_draft_s c g) (d := ml Z p q) (Z := Z) (Hs := Hs) h (hh.m rfl rfl rfl) hp g2 hb hf
  refine ⟨g, K, o, n, s, ?_, e2, e3⟩
  unfold f4_multiply
  rw [show f4_needIndex (nI p) 3 = _ from ni_in 3 hp, bt0_r, show f4_needIndex (nI q) 3 = _ from ni_in 3 hq, bt0_r, g1, bi1_s, e1, bt2_r, fo_pz]
end RA

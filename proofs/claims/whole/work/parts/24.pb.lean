/-! The relation of the two pictures, and the simplest calls. -/
theorem isP_in {k : Nat} (h : k < 3) : f5_isProduct (nI k) = 1 := within_in (n := 2) (by omega) (by omega)
theorem isP_out {x : Int32} (h : x < 0 ∨ nI 3 ≤ x) : f5_isProduct x = 0 := within_out (n := 2) (by omega) h
theorem isC_in {k : Nat} (h : k < 4) : f5_isConstant (nI k) = 1 := within_in (n := 3) (by omega) (by omega)
theorem isC_out {x : Int32} (h : x < 0 ∨ nI 4 ≤ x) : f5_isConstant x = 0 := within_out (n := 3) (by omega) h
theorem isV_in {k : Nat} (h : k < 4) : f5_isVariable (nI k) = 1 := within_in (n := 3) (by omega) (by omega)
theorem isV_out {x : Int32} (h : x < 0 ∨ nI 4 ≤ x) : f5_isVariable x = 0 := within_out (n := 3) (by omega) h
theorem isS_in {k : Nat} (h : k < 2) : f5_isSnapshot (nI k) = 1 := within_in (n := 1) (by omega) (by omega)
theorem isS_out {x : Int32} (h : x < 0 ∨ nI 2 ≤ x) : f5_isSnapshot x = 0 := within_out (n := 1) (by omega) h
theorem wi_in (m : Nat) {k : Nat} (h : k ≤ m) (hm : m < 2 ^ 31 := by omega) : f5_within (nI k) 0 (nI m) = 1 := within_in h hm
theorem wi_out (m : Nat) {x : Int32} (h : x < 0 ∨ nI (m + 1) ≤ x) (hm : m + 1 < 2 ^ 31 := by omega) : f5_within x 0 (nI m) = 0 := within_out hm h
theorem ni_in (n : Nat) {k : Nat} (h : k < n) (hn : n < 2 ^ 31 := by omega) : f4_needIndex (nI k) (nI n) = .inr () := needIndex_in h hn
theorem ni_out (n : Nat) {x : Int32} (h : x < 0 ∨ nI n ≤ x) : f4_needIndex x (nI n) = .inl 0 := needIndex_out h
theorem nn_in (m : Nat) {k : Nat} (h : k ≤ m) (hm : m < 2 ^ 31 := by omega) : f4_needNumber (nI k) 0 (nI m) = .inr () := needNumber_in h hm
theorem nn_out (m : Nat) {x : Int32} (h : x < 0 ∨ nI (m + 1) ≤ x) (hm : m + 1 < 2 ^ 31 := by omega) : f4_needNumber x 0 (nI m) = .inl 1 := needNumber_out hm h
def SN (st : CS) (ms : MS) : Prop := ∀ s, s < 2 → (c_taken st s = 0 ∧ m_taken ms s = 0) ∨ ∃ Y, VP Y ∧ c_taken st s = 1 ∧ m_taken ms s = 1 ∧ ∀ k, k < 24 → c_snaps st s k = nI (Y k) ∧ m_snaps ms (24 * s + k) = nI (Y k)
def TX (st : CS) (ms : MS) : Prop := ∃ n, n ≤ 60 ∧ c_length st = nI n ∧ m_length ms = nI n ∧ ∀ i, i < n → ∃ a, 33 ≤ a ∧ a ≤ 126 ∧ c_codes st i = nI a ∧ m_text ms i = nI a
def Rel (EP LP : CS → (Nat → Nat) → Prop) (st : CS) (ms : MS) : Prop := ∃ (Z : Nat → Nat) (Hs : List (Nat → Nat)), VZ Z ∧ CZ st Z ∧ MZ ms Z ∧ (∀ W, W ∈ Hs → VZ W) ∧ CH st Hs ∧ MH ms Hs ∧ SN st ms ∧ TX st ms ∧ EP st Z ∧ LP st Z
def esame (st st' : CS) : Prop := c_weight st' = c_weight st ∧ c_used st' = c_used st ∧ c_most st' = c_most st ∧ c_canBeEmpty st' = c_canBeEmpty st ∧ c_eprep st' = c_eprep st ∧ c_rows st' = c_rows st ∧ c_size st' = c_size st ∧ c_exactly st' = c_exactly st ∧ c_within st' = c_within st ∧ c_eways st' = c_eways st
def lsame (st st' : CS) : Prop := c_difference st' = c_difference st ∧ c_numbers st' = c_numbers st ∧ c_found st' = c_found st ∧ c_lprep st' = c_lprep st
def Snd (EP LP : CS → (Nat → Nat) → Prop) : Prop := (∀ st Z, c_eprep st = 0 → EP st Z) ∧ (∀ st Z, c_lprep st = 0 → LP st Z) ∧ (∀ st st' Z, esame st st' → EP st Z → EP st' Z) ∧ ∀ st st' Z, lsame st st' → LP st Z → LP st' Z
def msame (ms ms' : MS) : Prop := m_z ms' = m_z ms ∧ m_states ms' = m_states ms ∧ m_history ms' = m_history ms ∧ m_snaps ms' = m_snaps ms ∧ m_taken ms' = m_taken ms ∧ m_length ms' = m_length ms ∧ m_text ms' = m_text ms
theorem msame_t (ms : MS) (v : Int32) : msame ms (m_thrown_s ms v) := ⟨rfl, rfl, rfl, rfl, rfl, rfl, rfl⟩
theorem MZ.m {ms ms' : MS} {Z : Nat → Nat} (h : MZ ms Z) (e : m_z ms' = m_z ms) : MZ ms' Z := fun k hk => by rw [e]; exact h k hk
theorem MH.m {ms ms' : MS} {Hs : List (Nat → Nat)} (h : MH ms Hs) (e1 : m_states ms' = m_states ms) (e2 : m_history ms' = m_history ms) : MH ms' Hs := ⟨by rw [e1]; exact h.1, by rw [e2]; exact h.2⟩
theorem SN.m {st st' : CS} {ms ms' : MS} (h : SN st ms) (e1 : c_taken st' = c_taken st) (e2 : c_snaps st' = c_snaps st) (e3 : m_taken ms' = m_taken ms) (e4 : m_snaps ms' = m_snaps ms) : SN st' ms' := by
  unfold SN
  rw [e1, e2, e3, e4]
  exact h
theorem TX.m {st st' : CS} {ms ms' : MS} (h : TX st ms) (e1 : c_length st' = c_length st) (e2 : c_codes st' = c_codes st) (e3 : m_length ms' = m_length ms) (e4 : m_text ms' = m_text ms) : TX st' ms' := by
  unfold TX
  rw [e1, e2, e3, e4]
  exact h
theorem CH.m {st st' : CS} {Hs : List (Nat → Nat)} (h : CH st Hs) (e1 : c_held st' = c_held st) (e2 : c_oldest st' = c_oldest st) (e3 : c_kept st' = c_kept st) : CH st' Hs := by
  unfold CH
  rw [e1, e2, e3]
  exact h
theorem CH_cs {st : CS} {Hs : List (Nat → Nat)} {v : Nat → Int32} (h : CH st Hs) : CH (c_state_s st v) Hs := h.m rfl rfl rfl
theorem MH_zs {ms : MS} {Hs : List (Nat → Nat)} {v : Nat → Int32} (h : MH ms Hs) : MH (m_z_s ms v) Hs := h.m rfl rfl
theorem MH_ts {ms : MS} {Hs : List (Nat → Nat)} {v : Int32} (h : MH ms Hs) : MH (m_thrown_s ms v) Hs := h.m rfl rfl
/-- one of the state's numbers -/
def uz (Z : Nat → Nat) (k v : Nat) : Nat → Nat := fun j => if j = k then v else Z j
theorem uz_v {Z : Nat → Nat} (h : VZ Z) {k v : Nat} (hv : v ≤ bd k) : VZ (uz Z k v) := by
  intro j hj
  unfold uz
  split
  · rename_i e
    subst e
    exact hv
  · exact h j hj
theorem uz_u {f : Nat → Int32} {Z : Nat → Nat} (h : ∀ k, k < 26 → f k = nI (Z k)) (k v : Nat) : ∀ j, j < 26 → upd f k (nI v) j = nI (uz Z k v j) := by
  intro j hj
  unfold upd uz
  split
  · rfl
  · exact h j hj
section PB
variable {EP LP : CS → (Nat → Nat) → Prop} {st : CS} {ms : MS}
theorem Rel.m {ms' : MS} (h : Rel EP LP st ms) (e : msame ms ms') : Rel EP LP st ms' := by
  obtain ⟨Z, Hs, h1, h2, h3, h4, h5, h6, h7, h8, h9, h10⟩ := h
  exact ⟨Z, Hs, h1, h2, h3.m e.1, h4, h5, h6.m e.2.1 e.2.2.1, h7.m rfl rfl e.2.2.2.2.1 e.2.2.2.1, h8.m rfl rfl e.2.2.2.2.2.1 e.2.2.2.2.2.2, h9, h10⟩
theorem Rel.t (h : Rel EP LP st ms) (v : Int32) : Rel EP LP st (m_thrown_s ms v) := h.m (msame_t ms v)
/-- a refusal -/
theorem ok_ref {f : CS → Option (CS × (Nat ⊕ Int32))} {h : MS → Option (MS × Int32)} {L : List Nat} {e : Nat} {v : Int32} (hf : f st = some (st, .inl e)) (hh : h ms = some (m_thrown_s ms v, 0)) (hv : hco L (.inl e : Nat ⊕ Int32) = some v) (hR : Rel EP LP st ms) : okI f h L (Rel EP LP) st ms :=
  ⟨st, .inl e, m_thrown_s ms v, 0, v, hf, hh, hv, rfl, fun _ q => (nomatch q), hR.t v⟩
/-- an answer, the state as it was -/
theorem ok_ans {f : CS → Option (CS × (Nat ⊕ Int32))} {h : MS → Option (MS × Int32)} {L : List Nat} {a : Int32} (hf : f st = some (st, .inr a)) (hh : h ms = some (m_thrown_s ms 0, a)) (hR : Rel EP LP st ms) : okI f h L (Rel EP LP) st ms :=
  ⟨st, .inr a, m_thrown_s ms 0, a, 0, hf, hh, rfl, rfl, fun _ q => by cases q; rfl, hR.t 0⟩
/-- a number is put into the class's state -/
theorem change_ok {Z : Nat → Nat} {Hs : List (Nat → Nat)} (h : CZ st Z) (hh : CH st Hs) {k : Nat} (hk : k < 26) (v : Int32) : ∃ K o n, f4_change st (nI k) v = some (c_state_s (KS st K o n) (upd (c_state st) k v), nI (Z k)) ∧ CH (KS st K o n) (psh Hs Z) := by
  obtain ⟨K, o, n, e1, e2⟩ := keep_c h hh
  refine ⟨K, o, n, ?_, e2⟩
  unfold f4_change
  rw [e1, bi1_s, if_pos (ib_n hk (by omega)), if_pos (ib_n hk (by omega)), tn (by omega)]
  show some (c_state_s (KS st K o n) (upd (c_state st) k v), c_state st k) = _
  rw [h k hk]
/-- the new state -/
theorem ok_new (hS : Snd EP LP) {st' : CS} {ms' : MS} {Z : Nat → Nat} {Hs : List (Nat → Nat)} (h1 : VZ Z) (h2 : CZ st' Z) (h3 : MZ ms' Z) (h4 : ∀ W, W ∈ Hs → VZ W) (h5 : CH st' Hs) (h6 : MH ms' Hs) (h7 : SN st' ms') (h8 : TX st' ms') (h9 : c_eprep st' = 0) (h10 : c_lprep st' = 0) : Rel EP LP st' ms' := ⟨Z, Hs, h1, h2, h3, h4, h5, h6, h7, h8, hS.1 _ _ h9, hS.2.1 _ _ h10⟩
/-- one number changes in both -/
theorem one_new (hS : Snd EP LP) {Z : Nat → Nat} {Hs : List (Nat → Nat)} (h1 : VZ Z) (h2 : CZ st Z) (h3 : MZ ms Z) (h4 : ∀ W, W ∈ Hs → VZ W) (h7 : SN st ms) (h8 : TX st ms) {K : Nat → Nat → Int32} {o n : Int32} (h5 : CH (KS st K o n) (psh Hs Z)) {f : Nat → Int32} {n' : Int32} {u : Int32} (h6 : MH (SV (m_thrown_s ms u) f n') (psh Hs Z)) {k v : Nat} (hv : v ≤ bd k) : Rel EP LP (c_state_s (KS st K o n) (upd (c_state st) k (nI v))) (m_z_s (SV (m_thrown_s ms u) f n') (upd (m_z ms) k (nI v))) :=
  ok_new hS (uz_v h1 hv) (uz_u h2 k v) (uz_u h3 k v) (psh_all h4 h1) (CH_cs h5) (MH_zs h6) (h7.m rfl rfl rfl rfl) (h8.m rfl rfl rfl rfl) rfl rfl
theorem s0 (hS : Snd EP LP) : St0 (Rel EP LP) := by
  intro st ms hR x0 x1 x2
  rcases ar x0 3 (by omega) with ⟨p, hp, rfl⟩ | h0
  · rcases ar x1 4 (by omega) with ⟨c, hc, rfl⟩ | h1
    · rcases ar x2 10 (by omega) with ⟨v, hv, rfl⟩ | h2
      · obtain ⟨Z, Hs, a1, a2, a3, a4, a5, a6, a7, a8, a9, a10⟩ := hR
        obtain ⟨K, o, n, e1, e2⟩ := change_ok a2 a5 (k := 8 * p + c) (by omega) (nI v)
        obtain ⟨f, n', e3, e4⟩ := save_m (ms := m_thrown_s ms 0) (Z := Z) (Hs := Hs) a3 (MH_ts a6) a5.2.1
        refine ⟨_, .inr (nI (Z (8 * p + c))), _, nI (Z (8 * p + c)), 0, ?_, ?_, rfl, ?_, fun _ q => by cases q; rfl, one_new hS a1 a2 a3 a4 a7 a8 e2 e4 (k := 8 * p + c) (v := v) ?_⟩
        · show f4_constant _ _ _ _ = _
          unfold f4_constant
          rw [show f4_needIndex (nI p) 3 = _ from ni_in 3 hp, bt0_r, show f4_needIndex (nI c) 4 = _ from ni_in 4 hc, bt0_r, show f4_needNumber (nI v) 0 9 = _ from nn_in 9 (by omega), bt0_r, e8', e1, bi2_s]
        · show f5_constant _ _ _ _ = _
          unfold f5_constant
          rw [isP_in hp, isC_in hc, show f5_within (nI v) 0 9 = _ from wi_in 9 (by omega)]
          show (bi1 (f5_save (m_thrown_s ms 0)) fun st6 => _) = _
          rw [e3, bi1_s, of_ok (Z := Z) (ms := SV (m_thrown_s ms 0) f n') a3 (by omega), bi1_s, e8, if_pos (ib_n (by omega) (by omega)), tn (by omega)]
          rfl
        · rfl
        · unfold bd
          rw [if_pos (by omega)]
          omega
      · refine ok_ref (e := 1) (v := 2) ?_ ?_ rfl hR
        · show f4_constant _ _ _ _ = _
          unfold f4_constant
          rw [show f4_needIndex (nI p) 3 = _ from ni_in 3 hp, bt0_r, show f4_needIndex (nI c) 4 = _ from ni_in 4 hc, bt0_r, show f4_needNumber x2 0 9 = _ from nn_out 9 h2, bt0_l]
        · show f5_constant _ _ _ _ = _
          unfold f5_constant
          rw [isP_in hp, isC_in hc, show f5_within x2 0 9 = _ from wi_out 9 h2]
          rfl
    · refine ok_ref (e := 0) (v := 1) ?_ ?_ rfl hR
      · show f4_constant _ _ _ _ = _
        unfold f4_constant
        rw [show f4_needIndex (nI p) 3 = _ from ni_in 3 hp, bt0_r, show f4_needIndex x1 4 = _ from ni_out 4 h1, bt0_l]
      · show f5_constant _ _ _ _ = _
        unfold f5_constant
        rw [isP_in hp, isC_out h1]
        rfl
  · refine ok_ref (e := 0) (v := 1) ?_ ?_ rfl hR
    · show f4_constant _ _ _ _ = _
      unfold f4_constant
      rw [show f4_needIndex x0 3 = _ from ni_out 3 h0, bt0_l]
    · show f5_constant _ _ _ _ = _
      unfold f5_constant
      rw [isP_out h0]
      rfl
end PB

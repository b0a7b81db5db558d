/-! (of the class alone) -/
theorem i_ss (a b c d : Int32) : a - b + (c - d) = a + c - (b + d) := by
  have h : a - b + (c - d) + (b + d) = a + c := by
    rw [Int32.add_assoc, ← Int32.add_assoc (c - d) b d, Int32.add_comm (c - d) b, Int32.add_assoc b (c - d) d, Int32.sub_add_cancel, ← Int32.add_assoc, Int32.sub_add_cancel]
  rw [← h, Int32.add_sub_cancel]
theorem mulsub : ∀ w, w < 6 → ∀ u, u < 6 → ∀ x, x < 7 → (nI w - nI u) * nI x = nI (w * x) - nI (u * x) := by decide +kernel
theorem subz {p q : Nat} (hp : p < 2 ^ 31) (hq : q < 2 ^ 31) : nI p - nI q = 0 ↔ p = q := by
  constructor
  · intro h
    have : nI p = nI q := by
      rw [← Int32.sub_add_cancel (nI p) (nI q), h, Int32.zero_add]
    exact (nI_eq hp hq).mp this
  · rintro rfl
    exact Int32.sub_self _
/-- the differences of the two patterns, five above -/
def df (Z : Nat → Nat) (v : Nat) : Nat := 5 + Z (4 + v) - Z (12 + v)
def dI (Z : Nat → Nat) (v : Nat) : Int32 := nI (Z (4 + v)) - nI (Z (12 + v))
/-- the least solutions of the state -/
def LO (Z : Nat → Nat) : List Nat := lo (df Z) 1296
theorem VZ.w2 {Z : Nat → Nat} (hv : VZ Z) {f : Nat} (hf : f < 4) : Z (12 + f) < 6 := by
  have := hv (12 + f) (by omega)
  unfold bd at this
  rw [if_neg (by omega), if_pos (by omega)] at this
  omega
theorem df_lt {Z : Nat → Nat} (hv : VZ Z) : ∀ v, v < 4 → df Z v < 11 := fun v h => by
  have := hv.w h
  unfold df
  omega
theorem df_mul {Z : Nat → Nat} (hv : VZ Z) {v : Nat} (h : v < 4) (x : Nat) : df Z v * x + Z (12 + v) * x = 5 * x + Z (4 + v) * x := by
  have h2 := hv.w2 h
  rw [← Nat.add_mul, ← Nat.add_mul]
  congr 1
  unfold df
  omega
theorem LO_30 {Z : Nat → Nat} (hv : VZ Z) : (LO Z).length ≤ 30 := lo_30 (df_lt hv)
section QM
variable {st : CS} {Z : Nat → Nat}
theorem sum_z (hv : VZ Z) {a b c d : Nat} (ha : a < 7) (hb : b < 7) (hc : c < 7) (hd : d < 7) : dI Z 0 * nI a + dI Z 1 * nI b + dI Z 2 * nI c + dI Z 3 * nI d = 0 ↔ so4 (df Z 0) (df Z 1) (df Z 2) (df Z 3) a b c d := by
  unfold dI
  rw [mulsub _ (hv.w (f := 0) (by omega)) _ (hv.w2 (f := 0) (by omega)) _ ha, mulsub _ (hv.w (f := 1) (by omega)) _ (hv.w2 (f := 1) (by omega)) _ hb, mulsub _ (hv.w (f := 2) (by omega)) _ (hv.w2 (f := 2) (by omega)) _ hc, mulsub _ (hv.w (f := 3) (by omega)) _ (hv.w2 (f := 3) (by omega)) _ hd, i_ss, i_ss, i_ss, nI_add, nI_add, nI_add, nI_add, nI_add, nI_add]
  have e0 := df_mul hv (v := 0) (by omega) a
  have e1 := df_mul hv (v := 1) (by omega) b
  have e2 := df_mul hv (v := 2) (by omega) c
  have e3 := df_mul hv (v := 3) (by omega) d
  have l : ∀ f, f < 4 → ∀ x, x < 7 → Z (4 + f) * x ≤ 5 * 6 ∧ Z (12 + f) * x ≤ 5 * 6 := fun f hf x hx => ⟨Nat.mul_le_mul (by have := hv.w hf; omega) (by omega), Nat.mul_le_mul (by have := hv.w2 hf; omega) (by omega)⟩
  have l0 := l 0 (by omega) a ha
  have l1 := l 1 (by omega) b hb
  have l2 := l 2 (by omega) c hc
  have l3 := l 3 (by omega) d hd
  rw [subz (by omega) (by omega), so4_iff]
  omega
theorem solves4 (hd4 : ∀ v, v < 4 → c_difference st v = dI Z v) (hv : VZ Z) {a b c d : Nat} (ha : a < 7) (hb : b < 7) (hc : c < 7) (hd : d < 7) : (so4 (df Z 0) (df Z 1) (df Z 2) (df Z 3) a b c d ∧ f2_solves st (nI a) (nI b) (nI c) (nI d) = some 1) ∨ (¬ so4 (df Z 0) (df Z 1) (df Z 2) (df Z 3) a b c d ∧ f2_solves st (nI a) (nI b) (nI c) (nI d) = some 0) := by
  have h := sum_z hv ha hb hc hd
  unfold f2_solves
  rw [show c_difference st (0 : Int32).toNatClampNeg = dI Z 0 from hd4 0 (by omega), show c_difference st (1 : Int32).toNatClampNeg = dI Z 1 from hd4 1 (by omega), show c_difference st (2 : Int32).toNatClampNeg = dI Z 2 from hd4 2 (by omega), show c_difference st (3 : Int32).toNatClampNeg = dI Z 3 from hd4 3 (by omega)]
  by_cases q : so4 (df Z 0) (df Z 1) (df Z 2) (df Z 3) a b c d
  · rw [if_pos (h.mpr q)]
    exact Or.inl ⟨q, rfl⟩
  · rw [if_neg (fun z => q (h.mp z))]
    exact Or.inr ⟨q, rfl⟩
/-- row, numbers and how many are found -/
def LR (st : CS) (r : Nat → Int32) (nm : Nat → Int32) (fd : Int32) : CS := (c_state st, c_draft st, c_snaps st, c_taken st, c_kept st, c_oldest st, c_held st, c_codes st, c_length st, c_weight st, c_used st, c_most st, c_canBeEmpty st, c_eprep st, c_rows st, c_size st, c_exactly st, c_within st, c_eways st, c_choice st, c_difference st, r, nm, fd, c_lprep st, c_lways st)
theorem LR_r (st : CS) (r r' nm : Nat → Int32) (fd : Int32) : c_row_s (LR st r nm fd) r' = LR st r' nm fd := rfl
theorem LR_n (st : CS) (r nm nm' : Nat → Int32) (fd fd' : Int32) : c_found_s (c_numbers_s (LR st r nm fd) nm') fd' = LR st r nm' fd' := rfl
/-- the numbers of a list -/
def LL (fd : Int32) (nm : Nat → Int32) (l : List Nat) : Prop := fd = nI l.length ∧ ∀ k e, l[k]? = some e → ∀ v, v < 4 → nm (4 * k + v) = nI (d6 e v)
theorem number_c {l : List Nat} (h : LL (c_found st) (c_numbers st) l) (hl : l.length ≤ 30) {k e v : Nat} (hk : l[k]? = some e) (hv4 : v < 4) : f2_number st (nI k) (nI v) = some (nI (d6 e v)) := by
  have hk2 : k < l.length := by
    rcases Nat.lt_or_ge k l.length with z | z
    · exact z
    · rw [List.getElem?_eq_none z] at hk; cases hk
  unfold f2_number
  rw [if_neg (nI_pos (by omega)), h.1, if_neg (nI_ge hk2 (by omega)), show nI k * (4 : Int32) + nI v = nI (4 * k + v) by rw [show nI k * (4 : Int32) = nI (k * 4) from pk_mul k 4, nI_add, Nat.mul_comm], if_pos (ib_n (by omega) (by omega)), tn (by omega), h.2 k e hk v hv4]
theorem number_no {l : List Nat} (h : LL (c_found st) (c_numbers st) l) (hl : l.length ≤ 30) {k : Nat} (hk2 : k < 2 ^ 31) (hk : l.length ≤ k) (x : Int32) : f2_number st (nI k) x = some (-1) := by
  unfold f2_number
  rw [if_neg (nI_pos hk2), h.1, if_pos (nI_le hk hk2)]
/-- the row lies above a solution -/
def ab (e : Nat) (p : Nat → Nat) : Prop := ∀ v, v < 4 → d6 e v ≤ p v
theorem atMost_c {l : List Nat} (h : LL (c_found st) (c_numbers st) l) (hl : l.length ≤ 30) {p : Nat → Nat} (hr : ∀ v, v < 4 → c_row st v = nI (p v)) (hp : ∀ v, v < 4 → p v < 7) {k e : Nat} (hk : l[k]? = some e) : (ab e p ∧ f2_isAtMostRow st (nI k) = some 1) ∨ (¬ ab e p ∧ f2_isAtMostRow st (nI k) = some 0) := by
  have key : ∃ r, wh (f2_isAtMostRow_b2 st (nI k)) FU (0 : Int32) = some r ∧ ((r = .inl () ∧ ab e p) ∨ (r = .inr () ∧ ¬ ab e p)) := by
    refine wh_inv 4 (by omega) (fun i z => z = nI i ∧ ∀ v, v < i → d6 e v ≤ p v) _ ⟨rfl, fun v q => by omega⟩ ?_ ?_
    · rintro i _ hi ⟨rfl, hN⟩
      have b1 := d6_lt e i
      have b2 := hp i hi
      unfold f2_isAtMostRow_b2
      rw [if_neg (show ¬ (4 : Int32) ≤ nI i from lge 4 hi), number_c h hl hk hi, bi1_s, if_pos (ib_n hi (by omega)), tn (by omega), hr i hi, nI_1]
      by_cases q : d6 e i ≤ p i
      · refine Or.inl ⟨nI (i + 1), by rw [if_pos (nI_le q (by omega))], rfl, fun v hv' => ?_⟩
        by_cases z : v = i
        · subst z
          exact q
        · exact hN v (by omega)
      · exact Or.inr ⟨.inr (), by rw [if_neg (nI_ge (by omega) (by omega))], Or.inr ⟨rfl, fun z => q (z i hi)⟩⟩
    · rintro _ ⟨rfl, hN⟩
      refine ⟨.inl (), ?_, Or.inl ⟨rfl, hN⟩⟩
      unfold f2_isAtMostRow_b2
      exact if_pos (Int32.le_refl _)
  obtain ⟨r, k1, k2⟩ := key
  unfold f2_isAtMostRow
  rw [k1, bi1_s]
  rcases k2 with ⟨rfl, k3⟩ | ⟨rfl, k3⟩
  · exact Or.inl ⟨k3, rfl⟩
  · exact Or.inr ⟨k3, rfl⟩
/-- is one of the list below the row -/
theorem scan_c {l : List Nat} (h : LL (c_found st) (c_numbers st) l) (hl : l.length ≤ 30) {p : Nat → Nat} (hr : ∀ v, v < 4 → c_row st v = nI (p v)) (hp : ∀ v, v < 4 → p v < 7) : ∃ r, wh (f2_look_b36 st) FU (0 : Int32) = some r ∧ ((r = .inl () ∧ ∀ e, e ∈ l → ¬ ab e p) ∨ (r = .inr () ∧ ¬ ∀ e, e ∈ l → ¬ ab e p)) := by
  refine wh_inv l.length (by omega) (fun i z => z = nI i ∧ ∀ k e, k < i → l[k]? = some e → ¬ ab e p) _ ⟨rfl, fun k e q => by omega⟩ ?_ ?_
  · rintro i _ hi ⟨rfl, hN⟩
    have hk := getD_some hi
    unfold f2_look_b36
    rw [h.1, if_neg (nI_ge hi (by omega)), nI_1]
    rcases atMost_c h hl hr hp hk with ⟨q, e1⟩ | ⟨q, e1⟩
    · rw [e1, bi1_s, if_neg one_ne]
      exact Or.inr ⟨_, rfl, Or.inr ⟨rfl, fun z => z _ (getD_mem hi) q⟩⟩
    · rw [e1, bi1_s, if_pos rfl]
      refine Or.inl ⟨_, rfl, rfl, fun k e hk2 hk3 => ?_⟩
      by_cases z : k = i
      · subst z
        rw [hk] at hk3
        cases hk3
        exact q
      · exact hN k e (by omega) hk3
  · rintro _ ⟨rfl, hN⟩
    refine ⟨.inl (), ?_, Or.inl ⟨rfl, fun e he => ?_⟩⟩
    · unfold f2_look_b36
      rw [h.1, if_pos (Int32.le_refl _)]
    · obtain ⟨k, hk, e2⟩ := List.getElem_of_mem he
      exact hN k e hk (by rw [List.getElem?_eq_getElem hk, e2])
theorem row4 (r : Nat → Int32) (a b c d : Int32) : ∀ v, v < 4 → upd (upd (upd (upd r 0 a) 1 b) 2 c) 3 d v = if v = 0 then a else if v = 1 then b else if v = 2 then c else d := by
  intro v hv
  rcases (show v = 0 ∨ v = 1 ∨ v = 2 ∨ v = 3 by omega) with rfl | rfl | rfl | rfl
  · rw [pk_un (by omega), pk_un (by omega), pk_un (by omega), pk_us]; rfl
  · rw [pk_un (by omega), pk_un (by omega), pk_us]; rfl
  · rw [pk_un (by omega), pk_us]; rfl
  · rw [pk_us]; rfl
def p4 (a b c d : Nat) : Nat → Nat := fun v => if v = 0 then a else if v = 1 then b else if v = 2 then c else d
theorem p4_lt {a b c d m : Nat} (ha : a < m) (hb : b < m) (hc : c < m) (hd : d < m) (v : Nat) : p4 a b c d v < m := by
  unfold p4
  repeat' split
  all_goals omega
theorem row4' (r : Nat → Int32) (a b c d : Nat) : ∀ v, v < 4 → upd (upd (upd (upd r 0 (nI a)) 1 (nI b)) 2 (nI c)) 3 (nI d) v = nI (p4 a b c d v) := by
  intro v hv
  rw [row4 _ _ _ _ _ v hv]
  unfold p4
  repeat' split
  all_goals rfl
theorem setRow_c (r nm : Nat → Int32) (fd a b c d : Int32) : f2_setRow (LR st r nm fd) a b c d = some (LR st (upd (upd (upd (upd r 0 a) 1 b) 2 c) 3 d) nm fd) := by
  unfold f2_setRow
  rw [LR_r, LR_r, LR_r, LR_r]
  rfl
theorem ab_leb {e a b c d : Nat} (ha : a < 6) (hb : b < 6) (hc : c < 6) (hd : d < 6) : ab e (p4 a b c d) ↔ leb e (216 * a + 36 * b + 6 * c + d) = true := by
  obtain ⟨e0, e1, e2, e3⟩ := d6_at ha hb hc hd
  rw [leb_iff, e0, e1, e2, e3]
  constructor
  · intro h
    exact ⟨h 0 (by omega), h 1 (by omega), h 2 (by omega), h 3 (by omega)⟩
  · rintro ⟨h0, h1, h2, h3⟩ v hv
    rcases (show v = 0 ∨ v = 1 ∨ v = 2 ∨ v = 3 by omega) with rfl | rfl | rfl | rfl
    · exact h0
    · exact h1
    · exact h2
    · exact h3
/-- what the class has found below a place -/
def IL (st : CS) (Z : Nat → Nat) (n : Nat) (s : CS) : Prop := ∃ r nm fd, s = LR st r nm fd ∧ LL fd nm (lo (df Z) n)
theorem look_c (hd4 : ∀ v, v < 4 → c_difference st v = dI Z v) (hv : VZ Z) {a b c d : Nat} (ha : a < 6) (hb : b < 6) (hc : c < 6) (hd : d < 6) {s : CS} (h : IL st Z (216 * a + 36 * b + 6 * c + d) s) : ∃ s', f2_look s (nI a) (nI b) (nI c) (nI d) = some s' ∧ IL st Z (216 * a + 36 * b + 6 * c + d + 1) s' := by
  obtain ⟨e0, e1, e2, e3⟩ := d6_at ha hb hc hd
  obtain ⟨n, hn⟩ : ∃ n, n = 216 * a + 36 * b + 6 * c + d := ⟨_, rfl⟩
  have hab : ∀ e, ab e (p4 a b c d) ↔ leb e n = true := fun e => by rw [hn]; exact ab_leb ha hb hc hd
  rw [← hn] at e0 e1 e2 e3 h ⊢
  obtain ⟨r, nm, fd, rfl, hL⟩ := h
  have h30 := LO_30 hv
  have hl1 := lo_len_mono (df Z) (show n ≤ 1296 by omega)
  have hl2 := lo_len_mono (df Z) (show n + 1 ≤ 1296 by omega)
  have hso : sol (df Z) n = true ↔ so4 (df Z 0) (df Z 1) (df Z 2) (df Z 3) a b c d := by
    unfold sol
    rw [e0, e1, e2, e3]
    exact decide_eq_true_iff
  unfold IL
  rw [lo_s] at hl2 ⊢
  unfold f2_look
  rcases solves4 (st := LR st r nm fd) (Z := Z) hd4 hv (a := a) (b := b) (c := c) (d := d) (by omega) (by omega) (by omega) (by omega) with ⟨q, e⟩ | ⟨q, e⟩
  · rw [e, bi1_s, if_neg one_ne, nI_add, nI_add, nI_add]
    by_cases w : n = 0
    · rw [show a + b + c + d = 0 by omega, if_pos (show nI 0 = (0 : Int32) from rfl), if_neg (fun z => (tk_iff.mp z).1 w)]
      exact ⟨_, rfl, r, nm, fd, rfl, hL⟩
    · rw [if_neg (nI_ne0 (by omega) (by omega)), setRow_c, bi1_s]
      obtain ⟨x, x1, x2⟩ := scan_c (st := LR st (upd (upd (upd (upd r 0 (nI a)) 1 (nI b)) 2 (nI c)) 3 (nI d)) nm fd) (l := lo (df Z) n) hL (Nat.le_trans hl1 h30) (p := p4 a b c d) (row4' r a b c d) (fun v _ => p4_lt (by omega) (by omega) (by omega) (by omega) v)
      rw [x1, bi1_s]
      rcases x2 with ⟨rfl, x3⟩ | ⟨rfl, x3⟩
      · have ht : tk (df Z) (lo (df Z) n) n = true := tk_iff.mpr ⟨w, hso.mpr q, fun y hy => by
          have := x3 y hy
          rw [hab] at this
          simpa using this⟩
        rw [if_pos ht] at hl2 ⊢
        rw [List.length_append] at hl2
        have hl3 : (lo (df Z) n).length < 30 := by
          have : [n].length = 1 := rfl
          unfold LO at h30
          omega
        have hfd : fd = nI (lo (df Z) n).length := hL.1
        refine ⟨LR st (upd (upd (upd (upd r 0 (nI a)) 1 (nI b)) 2 (nI c)) 3 (nI d)) (va_cpy (upd (upd (upd (upd r 0 (nI a)) 1 (nI b)) 2 (nI c)) 3 (nI d)) nm 0 (4 * (lo (df Z) n).length) 4) (nI ((lo (df Z) n).length + 1)), ?_, _, _, _, rfl, ?_, ?_⟩
        · show (if (30 : Int32) ≤ fd then _ else if cg (0 : Int32) (fd * (4 : Int32)) (4 : Int32) 4 120 = true then some (c_found_s (c_numbers_s (LR st (upd (upd (upd (upd r 0 (nI a)) 1 (nI b)) 2 (nI c)) 3 (nI d)) nm fd) (va_cpy (upd (upd (upd (upd r 0 (nI a)) 1 (nI b)) 2 (nI c)) 3 (nI d)) nm (0 : Int32).toNatClampNeg (fd * (4 : Int32)).toNatClampNeg (4 : Int32).toNatClampNeg)) (fd + (1 : Int32))) else none) = _
          rw [hfd, if_neg (show ¬ (30 : Int32) ≤ nI (lo (df Z) n).length from lge 30 hl3), show nI (lo (df Z) n).length * (4 : Int32) = nI (4 * (lo (df Z) n).length) by rw [show nI (lo (df Z) n).length * (4 : Int32) = nI ((lo (df Z) n).length * 4) from pk_mul _ 4, Nat.mul_comm], tn (by omega), show (0 : Int32).toNatClampNeg = 0 from rfl, show (4 : Int32).toNatClampNeg = 4 from rfl, LR_n, nI_1, if_pos]
          unfold cg
          rw [tn (by omega), decide_eq_false (show ¬ (0 : Int32) < 0 by decide +kernel), decide_eq_false (nI_pos (n := 4 * (lo (df Z) n).length) (by omega)), decide_eq_false (show ¬ (4 : Int32) < 0 by decide +kernel), show (0 : Int32).toNatClampNeg = 0 from rfl, show (4 : Int32).toNatClampNeg = 4 from rfl, decide_eq_true (show 0 + 4 ≤ 4 by omega), decide_eq_true (show 4 * (lo (df Z) n).length + 4 ≤ 120 by omega)]
          rfl
        · rw [List.length_append]
          rfl
        · intro k e' hg v hv4
          rw [List.getElem?_append] at hg
          by_cases z : k < (lo (df Z) n).length
          · rw [if_pos z] at hg
            rw [pk_cpy_out (by omega)]
            exact hL.2 k e' hg v hv4
          · rw [if_neg z] at hg
            have : k = (lo (df Z) n).length := by
              rcases Nat.eq_zero_or_pos (k - (lo (df Z) n).length) with y | y
              · omega
              · rw [List.getElem?_eq_none (by simp; omega)] at hg; cases hg
            subst this
            simp at hg
            rw [pk_cpy_in (by omega) (by omega), show 0 + (4 * (lo (df Z) n).length + v - 4 * (lo (df Z) n).length) = v by omega, row4' _ _ _ _ _ v hv4, ← hg]
            unfold p4
            rcases (show v = 0 ∨ v = 1 ∨ v = 2 ∨ v = 3 by omega) with rfl | rfl | rfl | rfl
            · rw [e0]; rfl
            · rw [e1]; rfl
            · rw [e2]; rfl
            · rw [e3]; rfl
      · rw [if_neg (show ¬ tk (df Z) (lo (df Z) n) n = true from fun z => x3 (fun e he => by
          rw [hab, (tk_iff.mp z).2.2 e he]
          simp))]
        exact ⟨_, rfl, _, nm, fd, rfl, hL⟩
  · rw [e, bi1_s, if_pos rfl, if_neg (fun z => q (hso.mp (tk_iff.mp z).2.1))]
    exact ⟨_, rfl, r, nm, fd, rfl, hL⟩
end QM

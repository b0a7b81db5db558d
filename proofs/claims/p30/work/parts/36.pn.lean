/-! (of the class alone) -/
def nc (m : Nat) : List Nat → Nat → Nat
  | [], r => if r = 0 then 1 else 0
  | w :: ws, r => sm (fun a => nc m ws (r - w * a)) (up w m r + 1)
theorem solc_nc (m : Nat) : ∀ (ws : List Nat) (r b : Nat), (solc m ws r b).length = nc m ws r
  | [], r, b => by
    rw [solc, nc]
    split <;> rfl
  | w :: ws, r, b => by
    have h : ∀ n, ((List.range n).flatMap fun a => solc m ws (r - w * a) (16 * b + a)).length = sm (fun a => nc m ws (r - w * a)) n := by
      intro n
      induction n with
      | zero => rfl
      | succ n ih => rw [fm_s, List.length_append, ih, solc_nc m ws, sm]
    rw [solc, nc, h]
theorem sm_mono {f g : Nat → Nat} {n k : Nat} (hn : n ≤ k) (h : ∀ i, i < n → f i ≤ g i) : sm f n ≤ sm g k := by
  induction k with
  | zero => rw [show n = 0 by omega]; exact Nat.le_refl _
  | succ k ih =>
    by_cases e : n = k + 1
    · subst e
      clear ih hn
      induction k with
      | zero => rw [sm, sm]; have := h 0 (by omega); simp [sm]; exact this
      | succ k ih =>
        rw [sm, sm]
        exact Nat.add_le_add (ih (fun i hi => h i (by omega))) (h (k + 1) (by omega))
    · have := ih (by omega)
      rw [sm]
      omega
theorem up_mono {w m r : Nat} (hm : m ≤ 9) : up w m r ≤ up w 9 r := by
  unfold up
  split
  · omega
  · rename_i e
    generalize r / w = d
    omega
theorem nc_mono {m : Nat} (hm : m ≤ 9) : ∀ (ws : List Nat) (r : Nat), nc m ws r ≤ nc 9 ws r
  | [], r => Nat.le_refl _
  | w :: ws, r => by
    rw [nc, nc]
    exact sm_mono (Nat.succ_le_succ (up_mono hm)) (fun i _ => nc_mono hm ws _)
def ptb : List Nat := [1, 73300775185, 4740885567116192841985, 4723519685917965029377, 18447025552981295105, 1152922604119523329, 73300775185, 5373003642721911784225, 25185954575304487019025, 19835092431100811813137, 10387981264522590687505, 10074381830121909719313, 4740885567116192841985, 25185954575304487019025, 47390263963055590408705, 19833934705687614525697, 23704355494304285851905, 10074377308856795595009, 4723519685917965029377, 19835092431100811813137, 19833934705687614525697, 33063484316764969377793, 9779157344983892168705, 9760710319434938454017, 18447025552981295105, 10387981264522590687505, 23704355494304285851905, 9779157344983892168705, 92234846281339633665, 5037190897468483633153, 1152922604119523329, 10074381830121909719313, 10074377308856795595009, 9760710319434938454017, 5037190897468483633153, 4611689316964368385]
def pt (w v s : Nat) : Nat := ptb.getD (6 * w + v) 0 / 16 ^ s % 16
theorem pt_ok : ∀ w, w < 6 → ∀ v, v < 6 → ∀ s, s < 19 → nc 9 [w, v] s ≤ pt w v s := by decide +kernel
def qd (w0 w1 w2 w3 r : Nat) : Nat := sm (fun a => sm (fun b => pt w2 w3 (r - w0 * a - w1 * b)) (up w1 9 (r - w0 * a) + 1)) (up w0 9 r + 1)
theorem qd_00 : ∀ w2, w2 < 6 → ∀ w3, w3 < 6 → ∀ r, r < 19 → qd 0 0 w2 w3 r ≤ if r < 10 then 220 else 700 := by decide +kernel
theorem qd_01 : ∀ w2, w2 < 6 → ∀ w3, w3 < 6 → ∀ r, r < 19 → qd 0 1 w2 w3 r ≤ if r < 10 then 220 else 700 := by decide +kernel
theorem qd_02 : ∀ w2, w2 < 6 → ∀ w3, w3 < 6 → ∀ r, r < 19 → qd 0 2 w2 w3 r ≤ if r < 10 then 220 else 700 := by decide +kernel
theorem qd_03 : ∀ w2, w2 < 6 → ∀ w3, w3 < 6 → ∀ r, r < 19 → qd 0 3 w2 w3 r ≤ if r < 10 then 220 else 700 := by decide +kernel
theorem qd_04 : ∀ w2, w2 < 6 → ∀ w3, w3 < 6 → ∀ r, r < 19 → qd 0 4 w2 w3 r ≤ if r < 10 then 220 else 700 := by decide +kernel
theorem qd_05 : ∀ w2, w2 < 6 → ∀ w3, w3 < 6 → ∀ r, r < 19 → qd 0 5 w2 w3 r ≤ if r < 10 then 220 else 700 := by decide +kernel
theorem qd_10 : ∀ w2, w2 < 6 → ∀ w3, w3 < 6 → ∀ r, r < 19 → qd 1 0 w2 w3 r ≤ if r < 10 then 220 else 700 := by decide +kernel
theorem qd_11 : ∀ w2, w2 < 6 → ∀ w3, w3 < 6 → ∀ r, r < 19 → qd 1 1 w2 w3 r ≤ if r < 10 then 220 else 700 := by decide +kernel
theorem qd_12 : ∀ w2, w2 < 6 → ∀ w3, w3 < 6 → ∀ r, r < 19 → qd 1 2 w2 w3 r ≤ if r < 10 then 220 else 700 := by decide +kernel
theorem qd_13 : ∀ w2, w2 < 6 → ∀ w3, w3 < 6 → ∀ r, r < 19 → qd 1 3 w2 w3 r ≤ if r < 10 then 220 else 700 := by decide +kernel
theorem qd_14 : ∀ w2, w2 < 6 → ∀ w3, w3 < 6 → ∀ r, r < 19 → qd 1 4 w2 w3 r ≤ if r < 10 then 220 else 700 := by decide +kernel
theorem qd_15 : ∀ w2, w2 < 6 → ∀ w3, w3 < 6 → ∀ r, r < 19 → qd 1 5 w2 w3 r ≤ if r < 10 then 220 else 700 := by decide +kernel
theorem qd_20 : ∀ w2, w2 < 6 → ∀ w3, w3 < 6 → ∀ r, r < 19 → qd 2 0 w2 w3 r ≤ if r < 10 then 220 else 700 := by decide +kernel
theorem qd_21 : ∀ w2, w2 < 6 → ∀ w3, w3 < 6 → ∀ r, r < 19 → qd 2 1 w2 w3 r ≤ if r < 10 then 220 else 700 := by decide +kernel
theorem qd_22 : ∀ w2, w2 < 6 → ∀ w3, w3 < 6 → ∀ r, r < 19 → qd 2 2 w2 w3 r ≤ if r < 10 then 220 else 700 := by decide +kernel
theorem qd_23 : ∀ w2, w2 < 6 → ∀ w3, w3 < 6 → ∀ r, r < 19 → qd 2 3 w2 w3 r ≤ if r < 10 then 220 else 700 := by decide +kernel
theorem qd_24 : ∀ w2, w2 < 6 → ∀ w3, w3 < 6 → ∀ r, r < 19 → qd 2 4 w2 w3 r ≤ if r < 10 then 220 else 700 := by decide +kernel
theorem qd_25 : ∀ w2, w2 < 6 → ∀ w3, w3 < 6 → ∀ r, r < 19 → qd 2 5 w2 w3 r ≤ if r < 10 then 220 else 700 := by decide +kernel
theorem qd_30 : ∀ w2, w2 < 6 → ∀ w3, w3 < 6 → ∀ r, r < 19 → qd 3 0 w2 w3 r ≤ if r < 10 then 220 else 700 := by decide +kernel
theorem qd_31 : ∀ w2, w2 < 6 → ∀ w3, w3 < 6 → ∀ r, r < 19 → qd 3 1 w2 w3 r ≤ if r < 10 then 220 else 700 := by decide +kernel
theorem qd_32 : ∀ w2, w2 < 6 → ∀ w3, w3 < 6 → ∀ r, r < 19 → qd 3 2 w2 w3 r ≤ if r < 10 then 220 else 700 := by decide +kernel
theorem qd_33 : ∀ w2, w2 < 6 → ∀ w3, w3 < 6 → ∀ r, r < 19 → qd 3 3 w2 w3 r ≤ if r < 10 then 220 else 700 := by decide +kernel
theorem qd_34 : ∀ w2, w2 < 6 → ∀ w3, w3 < 6 → ∀ r, r < 19 → qd 3 4 w2 w3 r ≤ if r < 10 then 220 else 700 := by decide +kernel
theorem qd_35 : ∀ w2, w2 < 6 → ∀ w3, w3 < 6 → ∀ r, r < 19 → qd 3 5 w2 w3 r ≤ if r < 10 then 220 else 700 := by decide +kernel
theorem qd_40 : ∀ w2, w2 < 6 → ∀ w3, w3 < 6 → ∀ r, r < 19 → qd 4 0 w2 w3 r ≤ if r < 10 then 220 else 700 := by decide +kernel
theorem qd_41 : ∀ w2, w2 < 6 → ∀ w3, w3 < 6 → ∀ r, r < 19 → qd 4 1 w2 w3 r ≤ if r < 10 then 220 else 700 := by decide +kernel
theorem qd_42 : ∀ w2, w2 < 6 → ∀ w3, w3 < 6 → ∀ r, r < 19 → qd 4 2 w2 w3 r ≤ if r < 10 then 220 else 700 := by decide +kernel
theorem qd_43 : ∀ w2, w2 < 6 → ∀ w3, w3 < 6 → ∀ r, r < 19 → qd 4 3 w2 w3 r ≤ if r < 10 then 220 else 700 := by decide +kernel
theorem qd_44 : ∀ w2, w2 < 6 → ∀ w3, w3 < 6 → ∀ r, r < 19 → qd 4 4 w2 w3 r ≤ if r < 10 then 220 else 700 := by decide +kernel
theorem qd_45 : ∀ w2, w2 < 6 → ∀ w3, w3 < 6 → ∀ r, r < 19 → qd 4 5 w2 w3 r ≤ if r < 10 then 220 else 700 := by decide +kernel
theorem qd_50 : ∀ w2, w2 < 6 → ∀ w3, w3 < 6 → ∀ r, r < 19 → qd 5 0 w2 w3 r ≤ if r < 10 then 220 else 700 := by decide +kernel
theorem qd_51 : ∀ w2, w2 < 6 → ∀ w3, w3 < 6 → ∀ r, r < 19 → qd 5 1 w2 w3 r ≤ if r < 10 then 220 else 700 := by decide +kernel
theorem qd_52 : ∀ w2, w2 < 6 → ∀ w3, w3 < 6 → ∀ r, r < 19 → qd 5 2 w2 w3 r ≤ if r < 10 then 220 else 700 := by decide +kernel
theorem qd_53 : ∀ w2, w2 < 6 → ∀ w3, w3 < 6 → ∀ r, r < 19 → qd 5 3 w2 w3 r ≤ if r < 10 then 220 else 700 := by decide +kernel
theorem qd_54 : ∀ w2, w2 < 6 → ∀ w3, w3 < 6 → ∀ r, r < 19 → qd 5 4 w2 w3 r ≤ if r < 10 then 220 else 700 := by decide +kernel
theorem qd_55 : ∀ w2, w2 < 6 → ∀ w3, w3 < 6 → ∀ r, r < 19 → qd 5 5 w2 w3 r ≤ if r < 10 then 220 else 700 := by decide +kernel
theorem qd_ok {w0 w1 w2 w3 r : Nat} (h0 : w0 < 6) (h1 : w1 < 6) (h2 : w2 < 6) (h3 : w3 < 6) (hr : r < 19) : qd w0 w1 w2 w3 r ≤ if r < 10 then 220 else 700 := by
  rcases (show w0 = 0 ∨ w0 = 1 ∨ w0 = 2 ∨ w0 = 3 ∨ w0 = 4 ∨ w0 = 5 by omega) with rfl | rfl | rfl | rfl | rfl | rfl
  · rcases (show w1 = 0 ∨ w1 = 1 ∨ w1 = 2 ∨ w1 = 3 ∨ w1 = 4 ∨ w1 = 5 by omega) with rfl | rfl | rfl | rfl | rfl | rfl
    · exact qd_00 w2 h2 w3 h3 r hr
    · exact qd_01 w2 h2 w3 h3 r hr
    · exact qd_02 w2 h2 w3 h3 r hr
    · exact qd_03 w2 h2 w3 h3 r hr
    · exact qd_04 w2 h2 w3 h3 r hr
    · exact qd_05 w2 h2 w3 h3 r hr
  · rcases (show w1 = 0 ∨ w1 = 1 ∨ w1 = 2 ∨ w1 = 3 ∨ w1 = 4 ∨ w1 = 5 by omega) with rfl | rfl | rfl | rfl | rfl | rfl
    · exact qd_10 w2 h2 w3 h3 r hr
    · exact qd_11 w2 h2 w3 h3 r hr
    · exact qd_12 w2 h2 w3 h3 r hr
    · exact qd_13 w2 h2 w3 h3 r hr
    · exact qd_14 w2 h2 w3 h3 r hr
    · exact qd_15 w2 h2 w3 h3 r hr
  · rcases (show w1 = 0 ∨ w1 = 1 ∨ w1 = 2 ∨ w1 = 3 ∨ w1 = 4 ∨ w1 = 5 by omega) with rfl | rfl | rfl | rfl | rfl | rfl
    · exact qd_20 w2 h2 w3 h3 r hr
    · exact qd_21 w2 h2 w3 h3 r hr
    · exact qd_22 w2 h2 w3 h3 r hr
    · exact qd_23 w2 h2 w3 h3 r hr
    · exact qd_24 w2 h2 w3 h3 r hr
    · exact qd_25 w2 h2 w3 h3 r hr
  · rcases (show w1 = 0 ∨ w1 = 1 ∨ w1 = 2 ∨ w1 = 3 ∨ w1 = 4 ∨ w1 = 5 by omega) with rfl | rfl | rfl | rfl | rfl | rfl
    · exact qd_30 w2 h2 w3 h3 r hr
    · exact qd_31 w2 h2 w3 h3 r hr
    · exact qd_32 w2 h2 w3 h3 r hr
    · exact qd_33 w2 h2 w3 h3 r hr
    · exact qd_34 w2 h2 w3 h3 r hr
    · exact qd_35 w2 h2 w3 h3 r hr
  · rcases (show w1 = 0 ∨ w1 = 1 ∨ w1 = 2 ∨ w1 = 3 ∨ w1 = 4 ∨ w1 = 5 by omega) with rfl | rfl | rfl | rfl | rfl | rfl
    · exact qd_40 w2 h2 w3 h3 r hr
    · exact qd_41 w2 h2 w3 h3 r hr
    · exact qd_42 w2 h2 w3 h3 r hr
    · exact qd_43 w2 h2 w3 h3 r hr
    · exact qd_44 w2 h2 w3 h3 r hr
    · exact qd_45 w2 h2 w3 h3 r hr
  · rcases (show w1 = 0 ∨ w1 = 1 ∨ w1 = 2 ∨ w1 = 3 ∨ w1 = 4 ∨ w1 = 5 by omega) with rfl | rfl | rfl | rfl | rfl | rfl
    · exact qd_50 w2 h2 w3 h3 r hr
    · exact qd_51 w2 h2 w3 h3 r hr
    · exact qd_52 w2 h2 w3 h3 r hr
    · exact qd_53 w2 h2 w3 h3 r hr
    · exact qd_54 w2 h2 w3 h3 r hr
    · exact qd_55 w2 h2 w3 h3 r hr
theorem nc4 {w0 w1 w2 w3 r : Nat} (h0 : w0 < 6) (h1 : w1 < 6) (h2 : w2 < 6) (h3 : w3 < 6) (hr : r < 19) : nc 9 [w0, w1, w2, w3] r ≤ if r < 10 then 220 else 700 := by
  refine Nat.le_trans ?_ (qd_ok h0 h1 h2 h3 hr)
  show sm (fun a => sm (fun b => nc 9 [w2, w3] (r - w0 * a - w1 * b)) (up w1 9 (r - w0 * a) + 1)) (up w0 9 r + 1) ≤ _
  exact sm_mono (Nat.le_refl _) (fun a _ => sm_mono (Nat.le_refl _) (fun b _ => pt_ok w2 h2 w3 h3 _ (by omega)))
theorem VZ.w {Z : Nat → Nat} (hv : VZ Z) {f : Nat} (hf : f < 4) : Z (4 + f) < 6 := by
  have := hv (4 + f) (by omega)
  unfold bd at this
  rw [if_neg (by omega), if_pos (by omega)] at this
  omega
theorem SL_le {Z : Nat → Nat} (hv : VZ Z) {r : Nat} (hr : r < 19) : (SL Z (nI r)).length ≤ if r < 10 then 220 else 700 := by
  unfold SL
  rw [if_neg (nI_pos (by omega)), tn (by omega), solc_nc]
  exact Nat.le_trans (nc_mono (hv.le9 (by omega)) _ _) (nc4 (hv.w (f := 0) (by omega)) (hv.w (f := 1) (by omega)) (hv.w (f := 2) (by omega)) (hv.w (f := 3) (by omega)) hr)
/-- a rest is below zero, or at most nine -/
theorem rs_9 {Z : Nat → Nat} (hv : VZ Z) {c : Nat} (hc : c < 4) : rs Z c < 0 ∨ ∃ r, r < 10 ∧ rs Z c = nI r := by
  have b1 := hv.le9 (k := 16 + c) (by omega)
  have b2 := hv.le9 (k := c) (by omega)
  unfold rs
  rcases Nat.lt_or_ge (Z (16 + c)) (Z c) with q | q
  · exact Or.inl (pk_sneg (by omega) q)
  · exact Or.inr ⟨Z (16 + c) - Z c, by omega, pk_sub q⟩
theorem SL_220 {Z : Nat → Nat} (hv : VZ Z) {c : Nat} (hc : c < 4) : (SL Z (rs Z c)).length ≤ 220 := by
  rcases rs_9 hv hc with h | ⟨r, hr, e⟩
  · unfold SL
    rw [if_pos h]
    exact Nat.zero_le _
  · rw [e]
    have := SL_le hv (r := r) (by omega)
    rw [if_pos hr] at this
    exact this

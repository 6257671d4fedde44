/-! LAND: ends of pieces, next to one another against the clock -/
theorem nx_pv {A : zA} (hA : okB A) {j : Nat} (hj : j < aN A) : nx (aF A) (aN A) (pv (aF A) (aN A) j) = j := by
  have := okB_n hA
  unfold nx pv
  by_cases h1 : j < aF A
  · rw [if_pos h1]
    by_cases h2 : j = 0
    · rw [if_pos h2, if_pos (by omega), if_pos (by omega), h2]
    · rw [if_neg h2, if_pos (by omega), if_neg (by omega)]
      omega
  · rw [if_neg h1]
    by_cases h2 : j = aF A
    · rw [if_pos h2, if_neg (by omega), if_pos (by omega), h2]
    · rw [if_neg h2, if_neg (by omega), if_neg (by omega)]
      omega
theorem pv_nx {A : zA} (hA : okB A) {j : Nat} (hj : j < aN A) : pv (aF A) (aN A) (nx (aF A) (aN A) j) = j := by
  have := okB_n hA
  unfold nx pv
  by_cases h1 : j < aF A
  · rw [if_pos h1]
    by_cases h2 : j + 1 = aF A
    · rw [if_pos h2, if_pos (by omega), if_pos rfl]
      omega
    · rw [if_neg h2, if_pos (by omega), if_neg (by omega)]
      omega
  · rw [if_neg h1]
    by_cases h2 : j + 1 = aN A
    · rw [if_pos h2, if_neg (by omega), if_pos rfl]
      omega
    · rw [if_neg h2, if_neg (by omega), if_neg (by omega)]
      omega
/-- an end at a place: 0 away from it, 1 towards it; the place of an end -/
def en (A : zA) (p k : Nat) : Nat := if k = 0 then 2 * p else 2 * pv (aF A) (aN A) p + 1
def plc (A : zA) (e : Nat) : Nat := if e % 2 = 0 then e / 2 else nx (aF A) (aN A) (e / 2)
theorem plc_lt {A : zA} (hA : okB A) {e : Nat} (he : e < 2 * aN A) : plc A e < aN A := by
  unfold plc
  split
  · omega
  · exact nx_lt hA (by omega)
theorem en_lt {A : zA} (hA : okB A) {p k : Nat} (hp : p < aN A) : en A p k < 2 * aN A := by
  have := pv_lt hA hp
  unfold en
  split <;> omega
theorem plc_en {A : zA} (hA : okB A) {p k : Nat} (hp : p < aN A) (hk : k < 2) : plc A (en A p k) = p ∧ en A p k % 2 = k := by
  unfold plc en
  by_cases h : k = 0
  · rw [if_pos h, if_pos (by omega)]
    omega
  · rw [if_neg h, if_neg (by omega), show (2 * pv (aF A) (aN A) p + 1) / 2 = pv (aF A) (aN A) p by omega, nx_pv hA hp]
    omega
theorem en_plc {A : zA} (hA : okB A) {e : Nat} (he : e < 2 * aN A) : en A (plc A e) (e % 2) = e := by
  unfold plc en
  by_cases h : e % 2 = 0
  · rw [if_pos h, if_pos h]
    omega
  · rw [if_neg h, if_neg h, pv_nx hA (by omega)]
    omega
theorem ot_ot {A : zA} (hA : okA A) {j : Nat} (hj : j < aN A) : otA A (otA A j) = j ∧ ap A (otA A j) / 2 = ap A j / 2 ∧ ap A (otA A j) % 2 = 1 - ap A j % 2 := by
  have hp : pb A (ap A j / 2) = true := pb_iff.mpr ⟨j, hj, rfl⟩
  obtain ⟨h1, h2, h3, h4⟩ := oA_lt hA hp
  obtain ⟨h5, h6⟩ := oA_at hA hp
  by_cases h : ap A j % 2 = 1
  · have e1 : otA A j = uA A (ap A j / 2) := by unfold otA; rw [if_pos h]
    have e2 : ap A (otA A j) = 2 * (ap A j / 2) := by rw [e1, h6]
    have e3 : otA A (otA A j) = oA A (ap A j / 2) := by
      have : otA A (otA A j) = if ap A (otA A j) % 2 = 1 then uA A (ap A (otA A j) / 2) else oA A (ap A (otA A j) / 2) := rfl
      rw [this, if_neg (by omega), show ap A (otA A j) / 2 = ap A j / 2 by omega]
    have e4 : oA A (ap A j / 2) = j := hA.1.2.2.2.2 _ _ h2 hj (by omega)
    exact ⟨by rw [e3, e4], by omega, by omega⟩
  · have e1 : otA A j = oA A (ap A j / 2) := by unfold otA; rw [if_neg h]
    have e2 : ap A (otA A j) = 2 * (ap A j / 2) + 1 := by rw [e1, h5]
    have e3 : otA A (otA A j) = uA A (ap A j / 2) := by
      have : otA A (otA A j) = if ap A (otA A j) % 2 = 1 then uA A (ap A (otA A j) / 2) else oA A (ap A (otA A j) / 2) := rfl
      rw [this, if_pos (by omega), show ap A (otA A j) / 2 = ap A j / 2 by omega]
    have e4 : uA A (ap A j / 2) = j := hA.1.2.2.2.2 _ _ h4 hj (by omega)
    exact ⟨by rw [e3, e4], by omega, by omega⟩
/-- the next end at the same bridge, against the clock -/
def tn (A : zA) (e : Nat) : Nat := en A (otA A (plc A e)) ((ah A (ap A (plc A e) / 2) + ap A (plc A e) % 2 + e % 2) % 2)
theorem tn_lt {A : zA} (hA : okA A) {e : Nat} (he : e < 2 * aN A) : tn A e < 2 * aN A := en_lt hA.1 (ot_lt hA (plc_lt hA.1 he))
theorem tn_inj {A : zA} (hA : okA A) {e f : Nat} (he : e < 2 * aN A) (hf : f < 2 * aN A) (h : tn A e = tn A f) : e = f := by
  have p1 := plc_lt hA.1 he
  have p2 := plc_lt hA.1 hf
  have q1 := plc_en hA.1 (ot_lt hA p1) (k := (ah A (ap A (plc A e) / 2) + ap A (plc A e) % 2 + e % 2) % 2) (by omega)
  have q2 := plc_en hA.1 (ot_lt hA p2) (k := (ah A (ap A (plc A f) / 2) + ap A (plc A f) % 2 + f % 2) % 2) (by omega)
  have h' : en A (otA A (plc A e)) ((ah A (ap A (plc A e) / 2) + ap A (plc A e) % 2 + e % 2) % 2) = en A (otA A (plc A f)) ((ah A (ap A (plc A f) / 2) + ap A (plc A f) % 2 + f % 2) % 2) := h
  rw [h', q2.1] at q1
  rw [q2.2] at q1
  have e1 : plc A e = plc A f := by rw [← (ot_ot hA p1).1, ← (ot_ot hA p2).1, q1.1]
  have e2 := q1.2
  rw [e1] at e2
  rw [← en_plc hA.1 he, ← en_plc hA.1 hf, e1, show e % 2 = f % 2 by omega]
theorem tn_plc {A : zA} (hA : okA A) {e : Nat} (he : e < 2 * aN A) : plc A (tn A e) = otA A (plc A e) := (plc_en hA.1 (ot_lt hA (plc_lt hA.1 he)) (by omega)).1
/-- the other end of a piece -/
def xo (e : Nat) : Nat := if e % 2 = 0 then e + 1 else e - 1
theorem xo_44 : ∀ x : Fin 44, x.val ^^^ 1 = xo x.val := by decide
theorem xo_xor {e : Nat} (h : e < 44) : e ^^^ 1 = xo e := xo_44 ⟨e, h⟩
theorem xo_lt {e n : Nat} (h : e < 2 * n) : xo e < 2 * n := by unfold xo; split <;> omega
theorem xo_inj {e f : Nat} (h : xo e = xo f) : e = f := by
  unfold xo at h
  split at h <;> split at h <;> omega
theorem xo_2 (e : Nat) : xo e / 2 = e / 2 := by unfold xo; split <;> omega
def sgm (A : zA) (e : Nat) : Nat := tn A (xo e)
theorem sgm_lt {A : zA} (hA : okA A) {e : Nat} (he : e < 2 * aN A) : sgm A e < 2 * aN A := tn_lt hA (xo_lt he)
theorem sgm_inj {A : zA} (hA : okA A) {e f : Nat} (he : e < 2 * aN A) (hf : f < 2 * aN A) (h : sgm A e = sgm A f) : e = f := xo_inj (tn_inj hA (xo_lt he) (xo_lt hf) h)
/-- the bridge of an end -/
def bre (A : zA) (e : Nat) : Nat := ap A (plc A e) / 2
theorem bre_sgm {A : zA} (hA : okA A) {e : Nat} (he : e < 2 * aN A) : bre A (sgm A e) = bre A (xo e) := by
  have h := plc_lt hA.1 (xo_lt he)
  show ap A (plc A (tn A (xo e))) / 2 = ap A (plc A (xo e)) / 2
  rw [tn_plc hA (xo_lt he)]
  exact (ot_ot hA h).2.1
/-! the four ends of a bridge, as both sides write them -/
theorem tn_o {A : zA} (hA : okA A) {b : Nat} (hb : pb A b = true) : otA A (oA A b) = uA A b ∧ otA A (uA A b) = oA A b ∧ ap A (oA A b) = 2 * b + 1 ∧ ap A (uA A b) = 2 * b := by
  obtain ⟨h5, h6⟩ := oA_at hA hb
  refine ⟨?_, ?_, h5, h6⟩
  · unfold otA
    rw [h5, if_pos (by omega), show (2 * b + 1) / 2 = b by omega]
  · unfold otA
    rw [h6, if_neg (by omega), show 2 * b / 2 = b by omega]
theorem tn_en {A : zA} (hA : okA A) {p k : Nat} (hp : p < aN A) (hk : k < 2) : tn A (en A p k) = en A (otA A p) ((ah A (ap A p / 2) + ap A p % 2 + k) % 2) := by
  obtain ⟨h1, h2⟩ := plc_en hA.1 hp hk
  unfold tn
  rw [h1, h2]
theorem tn_4 {A : zA} (hA : okA A) {b : Nat} (hb : pb A b = true) : ∀ k, k < 2 → tn A (en A (oA A b) k) = en A (uA A b) ((ah A b + 1 + k) % 2) ∧ tn A (en A (uA A b) k) = en A (oA A b) ((ah A b + k) % 2) := by
  intro k hk
  obtain ⟨-, h2, -, h4⟩ := oA_lt hA hb
  obtain ⟨x1, x2, x3, x4⟩ := tn_o hA hb
  rw [tn_en hA h2 hk, tn_en hA h4 hk, x1, x2, x3, x4, show (2 * b + 1) / 2 = b by omega, show (2 * b + 1) % 2 = 1 by omega, show 2 * b / 2 = b by omega, show 2 * b % 2 = 0 by omega]
  exact ⟨rfl, by rw [Nat.add_zero]⟩

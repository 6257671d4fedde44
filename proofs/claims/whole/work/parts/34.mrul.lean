/-! the reference's stack of words that wait -/
def Sk : List Nat → kM → Prop
  | [], _ => True
  | x :: st, s => s 111 st.length = (x : Int) ∧ Sk st s
theorem Sk_c {s t : kM} : ∀ st : List Nat, (∀ i, i < st.length → t 111 i = s 111 i) → Sk st s → Sk st t
  | [], _, _ => trivial
  | x :: st, h, hs => ⟨by rw [h _ (Nat.lt_succ_self _)]; exact hs.1, Sk_c st (fun i hi => h i (Nat.lt_succ_of_lt hi)) hs.2⟩
def dep : List Nat → Nat
  | [] => 0
  | x :: st => (if x = 9 ∨ x = 12 then 1 else 0) + dep st
def pnd : List Nat → Nat
  | [] => 0
  | x :: st => (if x = 12 then 0 else 1) + pnd st
def MXr (T : Nat → Int) (L k : Nat) (st : List Nat) (c : List Int) (p n : Nat) (s : kM) : Prop := MVr T L k c p n s ∧ s 85 27 = ((dep st : Nat) : Int) ∧ s 85 29 = ((st.length : Nat) : Int) ∧ Sk st s
def mft (k : Nat) (s t : kM) : Prop := (∀ z, z ≠ 85 → z ≠ 106 → z ≠ 107 → z ≠ 111 → t z = s z) ∧ (∀ i, i ≠ 22 → i ≠ 23 → i ≠ 26 → i ≠ 27 → i ≠ 28 → i ≠ 29 → t 85 i = s 85 i) ∧ ∀ j, j < 300 * k ∨ 300 * k + 300 ≤ j → t 106 j = s 106 j ∧ t 107 j = s 107 j
theorem mft_v {k : Nat} {s t : kM} (h : mfv k s t) : mft k s t := ⟨fun z a b c _ => h.1 z a b c, fun i a b c _ d _ => h.2.1 i a b c d, h.2.2⟩
theorem mft_r (k : Nat) (s : kM) : mft k s s := mft_v (mfv_r k s)
theorem mft_t {k : Nat} {s t u : kM} (h : mft k s t) (h2 : mft k t u) : mft k s u := ⟨fun z a b c d => by rw [h2.1 z a b c d, h.1 z a b c d], fun i a b c d e f => by rw [h2.2.1 i a b c d e f, h.2.1 i a b c d e f], fun j hj => ⟨by rw [(h2.2.2 j hj).1, (h.2.2 j hj).1], by rw [(h2.2.2 j hj).2, (h.2.2 j hj).2]⟩⟩
theorem mft_85 (k : Nat) (s : kM) {i : Nat} (x : Int) (hi : i = 22 ∨ i = 23 ∨ i = 26 ∨ i = 27 ∨ i = 28 ∨ i = 29) : mft k s (gU s 85 i x) := ⟨fun z a _ _ _ => gU_n _ _ _ a, fun j a b c d e f => gUo _ _ _ (by omega), fun j _ => ⟨by rw [gU_n _ _ _ (by decide)], by rw [gU_n _ _ _ (by decide)]⟩⟩
theorem mft_111 (k : Nat) (s : kM) (i : Nat) (x : Int) : mft k s (gU s 111 i x) := ⟨fun z _ _ _ a => gU_n _ _ _ a, fun j _ _ _ _ _ _ => by rw [gU_n _ _ _ (by decide)], fun j _ => ⟨by rw [gU_n _ _ _ (by decide)], by rw [gU_n _ _ _ (by decide)]⟩⟩
/-- a reading of values leaves the stack -/
theorem MXr_v {T : Nat → Int} {L k : Nat} {st : List Nat} {c c' : List Int} {p n p' n' : Nat} {s t : kM} (h : MXr T L k st c p n s) (hf : mfv k s t) (h2 : MVr T L k c' p' n' t) : MXr T L k st c' p' n' t := ⟨h2, by rw [hf.2.1 27 (by decide) (by decide) (by decide) (by decide)]; exact h.2.1, by rw [hf.2.1 29 (by decide) (by decide) (by decide) (by decide)]; exact h.2.2.1, Sk_c st (fun i _ => by rw [hf.1 111 (by decide) (by decide) (by decide)]) h.2.2.2⟩
theorem MVr_85 {T : Nat → Int} {L k : Nat} {c : List Int} {p n : Nat} {s : kM} (h : MVr T L k c p n s) {i : Nat} (x : Int) (hi : i = 27 ∨ i = 29) : MVr T L k c p n (gU s 85 i x) := ⟨⟨h.1.1, by rw [gUo _ _ _ (by omega)]; exact h.1.2.1, by rw [gUo _ _ _ (by omega)]; exact h.1.2.2.1, by rw [gU_n _ _ _ (by decide)]; exact h.1.2.2.2⟩, by rw [gUo _ _ _ (by omega)]; exact h.2.1, by rw [gUo _ _ _ (by omega)]; exact h.2.2.1, MOr_85 h.2.2.2 _ (by omega)⟩
theorem MVr_111 {T : Nat → Int} {L k : Nat} {c : List Int} {p n : Nat} {s : kM} (h : MVr T L k c p n s) (i : Nat) (x : Int) : MVr T L k c p n (gU s 111 i x) := ⟨⟨h.1.1, by rw [gU_n _ _ _ (by decide)]; exact h.1.2.1, by rw [gU_n _ _ _ (by decide)]; exact h.1.2.2.1, by rw [gU_n _ _ _ (by decide)]; exact h.1.2.2.2⟩, by rw [gU_n _ _ _ (by decide)]; exact h.2.1, by rw [gU_n _ _ _ (by decide)]; exact h.2.2.1, by rw [gU_n _ _ _ (by decide)]; exact h.2.2.2.1, by rw [gU_n _ _ _ (by decide)]; exact h.2.2.2.2.1, by rw [gU_n _ _ _ (by decide)]; exact h.2.2.2.2.2.1, fun j hj => by rw [gU_n _ _ _ (by decide), gU_n _ _ _ (by decide)]; exact h.2.2.2.2.2.2 j hj⟩
def hd (st : List Nat) : Int := match st with
  | [] => -1
  | x :: _ => (x : Int)
theorem e_top {st : List Nat} {s : kM} (h1 : s 85 29 = ((st.length : Nat) : Int)) (h2 : Sk st s) (hl : st.length ≤ 402) : f_M_top s = some (hd st) := by
  unfold f_M_top
  cases st with
  | nil => rw [h1, if_pos (by rfl)]; rfl
  | cons x st =>
    have e : wI (s 85 29 - 1) = ((st.length : Nat) : Int) := by
      rw [h1]
      show wI (((st.length + 1 : Nat) : Int) - 1) = _
      have hl' : st.length + 1 ≤ 402 := hl
      rw [wI_id (by omega) (by omega)]
      omega
    have hl' : st.length + 1 ≤ 402 := hl
    have hne : ¬ s 85 29 = 0 := by
      rw [h1]
      show ¬ ((st.length + 1 : Nat) : Int) = 0
      omega
    rw [if_neg hne, e, gI_n (show st.length < 402 by clear e; omega), Option.bind_some, h2.1]
    rfl
def tk (x : Nat) : Int := if x = 9 then -22 else if x = 10 then -20 else -21
/-- those on top are answered -/
theorem e_answers {T : Nat → Int} {L k : Nat} (hk : k < 6) {x : Nat} (hx : x = 9 ∨ x = 10 ∨ x = 11) {st : List Nat} (hh : hd st ≠ (x : Int)) {p n : Nat} {s0 : kM} : ∀ i m c s, i < m → (List.replicate i x ++ st).length ≤ 402 → c.length + i < 300 → MXr T L k (List.replicate i x ++ st) c p n s → mft k s0 s → ∃ t, gL (fun (y : kM) => f_M_answers_0b (x : Int) y) m s = some t ∧ MXr T L k st (c ++ List.replicate i (tk x)) p n t ∧ mft k s0 t
  | 0, m, c, s, hm, hl, hc, hX, hf => by
    obtain ⟨m', rfl⟩ : ∃ m', m = m' + 1 := ⟨m - 1, by omega⟩
    have e : (fun (y : kM) => f_M_answers_0b (x : Int) y) s = some (.inr s) := by
      show f_M_answers_0b (x : Int) s = _
      unfold f_M_answers_0b
      rw [e_top hX.2.2.1 hX.2.2.2 hl, Option.bind_some]
      rw [if_neg (show ¬ hd (List.replicate 0 x ++ st) = (x : Int) from hh)]
    refine ⟨s, gL_r e, ?_, hf⟩
    show MXr T L k st (c ++ []) p n s
    rw [List.append_nil]
    exact hX
  | i + 1, m, c, s, hm, hl, hc, hX, hf => by
    obtain ⟨m', rfl⟩ : ∃ m', m = m' + 1 := ⟨m - 1, by omega⟩
    have hl' : (List.replicate i x ++ st).length + 1 ≤ 402 := hl
    obtain ⟨x1, x2, x3, x4, x5⟩ := hX
    have x2' : s 85 27 = (((if x = 9 ∨ x = 12 then 1 else 0) + dep (List.replicate i x ++ st) : Nat) : Int) := x2
    have x3' : s 85 29 = (((List.replicate i x ++ st).length + 1 : Nat) : Int) := x3
    have etop : f_M_top s = some (x : Int) := e_top (st := x :: (List.replicate i x ++ st)) x3 ⟨x4, x5⟩ hl
    have ha : (x : Int) = mt1 (tk x) := by rcases hx with h | h | h <;> subst h <;> rfl
    have hb : (0 : Int) = mt2 (tk x) := by rcases hx with h | h | h <;> subst h <;> rfl
    obtain ⟨t, g, t1, t2⟩ := e_M_entryX hk x1 (by omega) (x := tk x) ha hb
    have t29 : t 85 29 = s 85 29 := t2.2.1 29 (by decide) (by decide) (by decide) (by decide)
    have t27 : t 85 27 = s 85 27 := t2.2.1 27 (by decide) (by decide) (by decide) (by decide)
    have t111 : t 111 = s 111 := t2.1 111 (by decide) (by decide) (by decide)
    obtain ⟨u, hu⟩ : ∃ u, u = gU (gU t 85 29 (((List.replicate i x ++ st).length : Nat) : Int)) 85 27 ((dep (List.replicate i x ++ st) : Nat) : Int) := ⟨_, rfl⟩
    have ew1 : wI (t 85 29 - 1) = (((List.replicate i x ++ st).length : Nat) : Int) := by
      rw [t29, x3', wI_id (by omega) (by omega)]
      omega
    have hdl : dep (List.replicate i x ++ st) ≤ (List.replicate i x ++ st).length := by
      have : ∀ l : List Nat, dep l ≤ l.length := by
        intro l
        induction l with
        | nil => exact Nat.le_refl _
        | cons y l ih =>
          show (if _ then 1 else 0) + dep l ≤ l.length + 1
          split <;> omega
      exact this _
    have e : (fun (y : kM) => f_M_answers_0b (x : Int) y) s = some (.inl u) := by
      show f_M_answers_0b (x : Int) s = _
      unfold f_M_answers_0b f_M_answers_26
      rw [etop, Option.bind_some, if_pos rfl, if_pos x1.2.1, g, Option.bind_some, gLet_eq, ew1, gLet_eq, gLet_eq, gUo _ _ _ (show 27 ≠ 29 by decide), t27, x2']
      clear ew1
      by_cases h9 : x = 9
      · rw [if_pos (show ((x : Nat) : Int) = 9 by omega), if_pos (Or.inl h9)]
        have : wI (((1 + dep (List.replicate i x ++ st) : Nat) : Int) - 1) = ((dep (List.replicate i x ++ st) : Nat) : Int) := by rw [wI_id (by omega) (by omega)]; omega
        rw [this, hu]
      · rw [if_neg (show ¬ ((x : Nat) : Int) = 9 by omega), if_neg (show ¬ (x = 9 ∨ x = 12) by omega)]
        have : wI (((0 + dep (List.replicate i x ++ st) : Nat) : Int) - 0) = ((dep (List.replicate i x ++ st) : Nat) : Int) := by rw [wI_id (by omega) (by omega)]; omega
        rw [this, hu]
    clear ew1
    rw [gL_l e]
    have hXu : MXr T L k (List.replicate i x ++ st) (c ++ [tk x]) p n u := by
      rw [hu]
      refine ⟨MVr_85 (MVr_85 t1 _ (by decide)) _ (by decide), gUs _ _ _ _, by rw [gUo _ _ _ (by decide), gUs], Sk_c _ (fun j _ => ?_) x5⟩
      rw [gU_n _ _ _ (by decide), gU_n _ _ _ (by decide), t111]
    have hfu : mft k s0 u := by
      rw [hu]
      exact mft_t hf (mft_t (mft_v t2) (mft_t (mft_85 k _ _ (by decide)) (mft_85 k _ _ (by decide))))
    have hlc : (c ++ [tk x]).length = c.length + 1 := by rw [List.length_append]; rfl
    obtain ⟨w, g2, w1, w2⟩ := e_answers hk hx hh i m' (c ++ [tk x]) u (by omega) (by omega) (by omega) hXu hfu
    refine ⟨w, g2, ?_, w2⟩
    have : c ++ [tk x] ++ List.replicate i (tk x) = c ++ List.replicate (i + 1) (tk x) := by rw [List.append_assoc]; rfl
    rw [← this]
    exact w1
theorem e_ans {T : Nat → Int} {L k : Nat} (hk : k < 6) {x : Nat} (hx : x = 9 ∨ x = 10 ∨ x = 11) {st : List Nat} (hh : hd st ≠ (x : Int)) {p n i : Nat} {c : List Int} {s : kM} (hl : (List.replicate i x ++ st).length ≤ 402) (hc : c.length + i < 300) (hX : MXr T L k (List.replicate i x ++ st) c p n s) : ∃ t, f_M_answers (x : Int) s = some t ∧ MXr T L k st (c ++ List.replicate i (tk x)) p n t ∧ mft k s t := by
  unfold f_M_answers f_M_answers_0
  have : (List.replicate i x ++ st).length = i + st.length := by rw [List.length_append, List.length_replicate]
  exact e_answers hk hx hh i gF c s (by show i < 4096; omega) hl hc hX (mft_r k s)

/-! frames: what a method leaves as it was -/
def Fr (W : List Nat) (s s' : kM) : Prop := ∀ a, a ∉ W → s' a = s a
theorem Fr.r {W : List Nat} {s : kM} : Fr W s s := fun _ _ => rfl
theorem Fr.u {W : List Nat} {s0 s : kM} {a i : Nat} {x : Int} (h : Fr W s0 s) (ha : a ∈ W) : Fr W s0 (gU s a i x) := fun b hb => by
  rw [gU_n _ _ _ (fun (q : b = a) => hb (by rw [q]; exact ha))]
  exact h b hb
theorem Fr.a {W : List Nat} {s0 s : kM} {a : Nat} {f : Nat → Int} (h : Fr W s0 s) (ha : a ∈ W) : Fr W s0 (gA s a f) := fun b hb => by
  rw [gA_n _ _ (fun (q : b = a) => hb (by rw [q]; exact ha))]
  exact h b hb
theorem Fr.c {W W' : List Nat} {s0 s q : kM} (h : Fr W s0 s) (h' : Fr W' s q) (hs : ∀ a, a ∉ W → a ∉ W') : Fr W s0 q := fun b hb => (h' b (hs b hb)).trans (h b hb)
theorem gL_fr {σ ρ : Type} {f : σ → Option (σ ⊕ ρ)} {P : σ → Prop} {q : ρ → Prop} (hs : ∀ x t, f x = some t → P x → gE P q t) : ∀ (n : Nat) (x : σ) (t : ρ), gL f n x = some t → P x → q t := by
  intro n
  induction n with
  | zero => intro x t h; cases h
  | succ n ih =>
    intro x t h hp
    unfold gL at h
    cases hf : f x with
    | none => rw [hf] at h; cases h
    | some r =>
      rw [hf] at h
      cases r with
      | inl y => exact ih y t h (hs x _ hf hp)
      | inr r => cases h; exact hs x _ hf hp
def W_Arrays_fill_II (a0 : Nat) (n0 : Nat) : List Nat := [a0]
theorem w_Arrays_fill_II_5b (a0 : Nat) (n0 : Nat) (x1 : Int) (x2 : Int) (x3 : Int) (s0 s : kM) (h0 : Fr (W_Arrays_fill_II a0 n0) s0 s) (t : (Int × kM) ⊕ (kM)) (hf : f_Arrays_fill_II_5b a0 n0 x1 x2 x3 s = some t) : (gE (fun x => Fr (W_Arrays_fill_II a0 n0) s0 x.2) (fun r => Fr (W_Arrays_fill_II a0 n0) s0 r)) t := by
  unfold f_Arrays_fill_II_5b at hf
  by_cases c1 : x3 ≤ x2
  · have hf := gift c1 hf
    cases hf
    exact h0
  · have hf := giff c1 hf
    obtain ⟨j2, i3, hf⟩ := gbI hf
    obtain ⟨s4, ee5, hf⟩ := gbL hf
    have hF6 : Fr (W_Arrays_fill_II a0 n0) s0 s4 := by rw [ee5]; exact Fr.u h0 (by simp [W_Arrays_fill_II])
    cases hf
    exact hF6
theorem w_Arrays_fill_II_5 (a0 : Nat) (n0 : Nat) (x1 : Int) (x2 : Int) (x3 : Int) (s0 s : kM) (h0 : Fr (W_Arrays_fill_II a0 n0) s0 s) (t : kM) (hf : f_Arrays_fill_II_5 a0 n0 x1 x2 x3 s = some t) : (fun r => Fr (W_Arrays_fill_II a0 n0) s0 r) t :=
  gL_fr (P := fun (x : Int × kM) => Fr (W_Arrays_fill_II a0 n0) s0 x.2) (q := (fun r => Fr (W_Arrays_fill_II a0 n0) s0 r)) (fun x t hf h0 => w_Arrays_fill_II_5b a0 n0 x1 x.1 x3 s0 x.2 h0 t hf) gF (x2, s) t hf h0
theorem w_Arrays_fill_II (a0 : Nat) (n0 : Nat) (x1 : Int) (s : kM) (t : kM) (hf : f_Arrays_fill_II a0 n0 x1 s = some t) : Fr (W_Arrays_fill_II a0 n0) s t := by
  unfold f_Arrays_fill_II at hf
  have h0 : Fr (W_Arrays_fill_II a0 n0) s s := Fr.r
  exact w_Arrays_fill_II_5 a0 n0 x1 0 ((n0 : Nat) : Int) s s h0 _ hf
def W_Tape_put : List Nat := [1, 2]
theorem w_Tape_put_23 (x1 : Int) (x2 : Int) (s0 s : kM) (h0 : Fr (W_Tape_put) s0 s) (t : (Int × kM) ⊕ (kM)) (hf : f_Tape_put_23 x1 x2 s = some t) : (gE (fun x => Fr (W_Tape_put) s0 x.2) (fun r => Fr (W_Tape_put) s0 r)) t := by
  unfold f_Tape_put_23 at hf
  cases hf
  exact h0
theorem w_Tape_put_2b (x1 : Int) (x2 : Int) (s0 s : kM) (h0 : Fr (W_Tape_put) s0 s) (t : (Int × kM) ⊕ (kM)) (hf : f_Tape_put_2b x1 x2 s = some t) : (gE (fun x => Fr (W_Tape_put) s0 x.2) (fun r => Fr (W_Tape_put) s0 r)) t := by
  unfold f_Tape_put_2b at hf
  by_cases c1 : x2 < 0
  · have hf := gift c1 hf
    cases hf
    exact h0
  · have hf := giff c1 hf
    by_cases c2 : 400 ≤ (s 1 1)
    · have hf := gift c2 hf
      exact w_Tape_put_23 x1 x2 s0 s h0 _ hf
    · have hf := giff c2 hf
      obtain ⟨j3, i4, hf⟩ := gbI hf
      obtain ⟨s5, ee6, hf⟩ := gbL hf
      have hF7 : Fr (W_Tape_put) s0 s5 := by rw [ee6]; exact Fr.u h0 (by simp [W_Tape_put])
      obtain ⟨s8, ee9, hf⟩ := gbL hf
      have hF10 : Fr (W_Tape_put) s0 s8 := by rw [ee9]; exact Fr.u hF7 (by simp [W_Tape_put])
      exact w_Tape_put_23 x1 x2 s0 s8 hF10 _ hf
theorem w_Tape_put_2 (x1 : Int) (x2 : Int) (s0 s : kM) (h0 : Fr (W_Tape_put) s0 s) (t : kM) (hf : f_Tape_put_2 x1 x2 s = some t) : (fun r => Fr (W_Tape_put) s0 r) t :=
  gL_fr (P := fun (x : Int × kM) => Fr (W_Tape_put) s0 x.2) (q := (fun r => Fr (W_Tape_put) s0 r)) (fun x t hf h0 => w_Tape_put_2b x1 x.1 s0 x.2 h0 t hf) gF (x2, s) t hf h0
theorem w_Tape_put (x1 : Int) (s : kM) (t : kM) (hf : f_Tape_put x1 s = some t) : Fr (W_Tape_put) s t := by
  unfold f_Tape_put at hf
  have h0 : Fr (W_Tape_put) s s := Fr.r
  exact w_Tape_put_2 x1 24 s s h0 _ hf
def W_KT_feed : List Nat := [1, 2]
theorem w_KT_feed (x1 : Int) (x2 : Int) (x3 : Int) (x4 : Int) (x5 : Int) (s : kM) (t : Int × kM) (hf : f_KT_feed x1 x2 x3 x4 x5 s = some t) : Fr (W_KT_feed) s t.2 := by
  unfold f_KT_feed at hf
  have h0 : Fr (W_KT_feed) s s := Fr.r
  by_cases c1 : (wI ((s 1 1) + 20)) ≤ 400
  · have hf := gift c1 hf
    obtain ⟨q2, hq2, hf⟩ := gbind hf
    have hF3 : Fr (W_KT_feed) s q2 := Fr.c h0 (w_Tape_put x1 s _ hq2) (by intro a ha; simp only [W_KT_feed, W_Tape_put, List.mem_cons, List.not_mem_nil, or_false, not_or] at ha ⊢; omega)
    obtain ⟨q4, hq4, hf⟩ := gbind hf
    have hF5 : Fr (W_KT_feed) s q4 := Fr.c hF3 (w_Tape_put x2 q2 _ hq4) (by intro a ha; simp only [W_KT_feed, W_Tape_put, List.mem_cons, List.not_mem_nil, or_false, not_or] at ha ⊢; omega)
    obtain ⟨q6, hq6, hf⟩ := gbind hf
    have hF7 : Fr (W_KT_feed) s q6 := Fr.c hF5 (w_Tape_put x3 q4 _ hq6) (by intro a ha; simp only [W_KT_feed, W_Tape_put, List.mem_cons, List.not_mem_nil, or_false, not_or] at ha ⊢; omega)
    obtain ⟨q8, hq8, hf⟩ := gbind hf
    have hF9 : Fr (W_KT_feed) s q8 := Fr.c hF7 (w_Tape_put x4 q6 _ hq8) (by intro a ha; simp only [W_KT_feed, W_Tape_put, List.mem_cons, List.not_mem_nil, or_false, not_or] at ha ⊢; omega)
    obtain ⟨q10, hq10, hf⟩ := gbind hf
    have hF11 : Fr (W_KT_feed) s q10 := Fr.c hF9 (w_Tape_put x5 q8 _ hq10) (by intro a ha; simp only [W_KT_feed, W_Tape_put, List.mem_cons, List.not_mem_nil, or_false, not_or] at ha ⊢; omega)
    cases hf
    exact hF11
  · have hf := giff c1 hf
    cases hf
    exact h0
def W_KT_end : List Nat := [1]
theorem w_KT_end (x1 : Int) (s : kM) (t : Int × kM) (hf : f_KT_end x1 s = some t) : Fr (W_KT_end) s t.2 := by
  unfold f_KT_end at hf
  have h0 : Fr (W_KT_end) s s := Fr.r
  by_cases c1 : x1 < 0
  · have hf := gift c1 hf
    cases hf
    exact h0
  · have hf := giff c1 hf
    by_cases c2 : x1 ≤ (s 1 1)
    · have hf := gift c2 hf
      obtain ⟨s3, ee4, hf⟩ := gbL hf
      have hF5 : Fr (W_KT_end) s s3 := by rw [ee4]; exact Fr.u h0 (by simp [W_KT_end])
      cases hf
      exact hF5
    · have hf := giff c2 hf
      cases hf
      exact h0
def W_Town_comeHome (b0 : Nat) : List Nat := [b0 + 3, b0 + 4]
theorem w_Town_comeHome (b0 : Nat) (x1 : Int) (x2 : Int) (s : kM) (t : kM) (hf : f_Town_comeHome b0 x1 x2 s = some t) : Fr (W_Town_comeHome b0) s t := by
  unfold f_Town_comeHome at hf
  have h0 : Fr (W_Town_comeHome b0) s s := Fr.r
  by_cases c1 : x2 ≤ x1
  · have hf := gift c1 hf
    cases hf
    exact h0
  · have hf := giff c1 hf
    obtain ⟨j2, i3, hf⟩ := gbI hf
    obtain ⟨s4, ee5, hf⟩ := gbL hf
    have hF6 : Fr (W_Town_comeHome b0) s s4 := by rw [ee5]; exact Fr.u h0 (by simp [W_Town_comeHome])
    obtain ⟨j7, i8, hf⟩ := gbI hf
    obtain ⟨s9, ee10, hf⟩ := gbL hf
    have hF11 : Fr (W_Town_comeHome b0) s s9 := by rw [ee10]; exact Fr.u hF6 (by simp [W_Town_comeHome])
    cases hf
    exact hF11
def W_Town_settle (b0 : Nat) : List Nat := [b0, b0 + 3, b0 + 4, b0 + 5]
theorem w_Town_settle_9b (b0 : Nat) (x1 : Int) (s0 s : kM) (h0 : Fr (W_Town_settle b0) s0 s) (t : (Int × kM) ⊕ (kM)) (hf : f_Town_settle_9b b0 x1 s = some t) : (gE (fun x => Fr (W_Town_settle b0) s0 x.2) (fun r => Fr (W_Town_settle b0) s0 r)) t := by
  unfold f_Town_settle_9b at hf
  by_cases c1 : (s b0 2) ≤ x1
  · have hf := gift c1 hf
    obtain ⟨q2, hq2, hf⟩ := gbind hf
    have hF3 : Fr (W_Town_settle b0) s0 q2 := Fr.c h0 (w_Town_comeHome b0 0 (s b0 1) s _ hq2) (by intro a ha; simp only [W_Town_settle, W_Town_comeHome, List.mem_cons, List.not_mem_nil, or_false, not_or] at ha ⊢; omega)
    obtain ⟨q4, hq4, hf⟩ := gbind hf
    have hF5 : Fr (W_Town_settle b0) s0 q4 := Fr.c hF3 (w_Town_comeHome b0 (q2 b0 1) (q2 b0 2) q2 _ hq4) (by intro a ha; simp only [W_Town_settle, W_Town_comeHome, List.mem_cons, List.not_mem_nil, or_false, not_or] at ha ⊢; omega)
    cases hf
    exact hF5
  · have hf := giff c1 hf
    obtain ⟨j6, i7, hf⟩ := gbI hf
    obtain ⟨j8, i9, hf⟩ := gbI hf
    obtain ⟨s10, ee11, hf⟩ := gbL hf
    have hF12 : Fr (W_Town_settle b0) s0 s10 := by rw [ee11]; exact Fr.u h0 (by simp [W_Town_settle])
    obtain ⟨j13, i14, hf⟩ := gbI hf
    obtain ⟨s15, ee16, hf⟩ := gbL hf
    have hF17 : Fr (W_Town_settle b0) s0 s15 := by rw [ee16]; exact Fr.u hF12 (by simp [W_Town_settle])
    obtain ⟨j18, i19, hf⟩ := gbI hf
    obtain ⟨s20, ee21, hf⟩ := gbL hf
    have hF22 : Fr (W_Town_settle b0) s0 s20 := by rw [ee21]; exact Fr.u hF17 (by simp [W_Town_settle])
    obtain ⟨j23, i24, hf⟩ := gbI hf
    obtain ⟨s25, ee26, hf⟩ := gbL hf
    have hF27 : Fr (W_Town_settle b0) s0 s25 := by rw [ee26]; exact Fr.u hF22 (by simp [W_Town_settle])
    cases hf
    exact hF27
theorem w_Town_settle_9 (b0 : Nat) (x1 : Int) (s0 s : kM) (h0 : Fr (W_Town_settle b0) s0 s) (t : kM) (hf : f_Town_settle_9 b0 x1 s = some t) : (fun r => Fr (W_Town_settle b0) s0 r) t :=
  gL_fr (P := fun (x : Int × kM) => Fr (W_Town_settle b0) s0 x.2) (q := (fun r => Fr (W_Town_settle b0) s0 r)) (fun x t hf h0 => w_Town_settle_9b b0 x.1 s0 x.2 h0 t hf) gF (x1, s) t hf h0
theorem w_Town_settle (b0 : Nat) (s : kM) (t : kM) (hf : f_Town_settle b0 s = some t) : Fr (W_Town_settle b0) s t := by
  unfold f_Town_settle at hf
  have h0 : Fr (W_Town_settle b0) s s := Fr.r
  obtain ⟨q1, hq1, hf⟩ := gbind hf
  have hF2 : Fr (W_Town_settle b0) s q1 := Fr.c h0 (w_Arrays_fill_II (b0 + 5) 22 (-1) s _ hq1) (by intro a ha; simp only [W_Town_settle, W_Arrays_fill_II, List.mem_cons, List.not_mem_nil, or_false, not_or] at ha ⊢; omega)
  obtain ⟨s3, ee4, hf⟩ := gbL hf
  have hF5 : Fr (W_Town_settle b0) s s3 := by rw [ee4]; exact Fr.u hF2 (by simp [W_Town_settle])
  exact w_Town_settle_9 b0 0 s s3 hF5 _ hf
def W_Town_clear (b0 : Nat) : List Nat := [b0, b0 + 3, b0 + 4, b0 + 5]
theorem w_Town_clear (b0 : Nat) (s : kM) (t : kM) (hf : f_Town_clear b0 s = some t) : Fr (W_Town_clear b0) s t := by
  unfold f_Town_clear at hf
  have h0 : Fr (W_Town_clear b0) s s := Fr.r
  obtain ⟨s1, ee2, hf⟩ := gbL hf
  have hF3 : Fr (W_Town_clear b0) s s1 := by rw [ee2]; exact Fr.u h0 (by simp [W_Town_clear])
  obtain ⟨s4, ee5, hf⟩ := gbL hf
  have hF6 : Fr (W_Town_clear b0) s s4 := by rw [ee5]; exact Fr.u hF3 (by simp [W_Town_clear])
  obtain ⟨s7, ee8, hf⟩ := gbL hf
  have hF9 : Fr (W_Town_clear b0) s s7 := by rw [ee8]; exact Fr.u hF6 (by simp [W_Town_clear])
  obtain ⟨q10, hq10, hf⟩ := gbind hf
  have hF11 : Fr (W_Town_clear b0) s q10 := Fr.c hF9 (w_Town_settle b0 s7 _ hq10) (by intro a ha; simp only [W_Town_clear, W_Town_settle, List.mem_cons, List.not_mem_nil, or_false, not_or] at ha ⊢; omega)
  cases hf
  exact hF11
def W_Tape_rewind : List Nat := [1]
theorem w_Tape_rewind (s : kM) (t : kM) (hf : f_Tape_rewind s = some t) : Fr (W_Tape_rewind) s t := by
  unfold f_Tape_rewind at hf
  have h0 : Fr (W_Tape_rewind) s s := Fr.r
  obtain ⟨s1, ee2, hf⟩ := gbL hf
  have hF3 : Fr (W_Tape_rewind) s s1 := by rw [ee2]; exact Fr.u h0 (by simp [W_Tape_rewind])
  obtain ⟨s4, ee5, hf⟩ := gbL hf
  have hF6 : Fr (W_Tape_rewind) s s4 := by rw [ee5]; exact Fr.u hF3 (by simp [W_Tape_rewind])
  cases hf
  exact hF6
def W_Tape_look : List Nat := [1]
theorem w_Tape_look_19 (s0 s : kM) (h0 : Fr (W_Tape_look) s0 s) (t : Int × kM) (hf : f_Tape_look_19 s = some t) : (fun r => Fr (W_Tape_look) s0 r.2) t := by
  unfold f_Tape_look_19 at hf
  by_cases c1 : (s 1 1) ≤ (s 1 2)
  · have hf := gift c1 hf
    cases hf
    exact h0
  · have hf := giff c1 hf
    obtain ⟨j2, i3, hf⟩ := gbI hf
    cases hf
    exact h0
theorem w_Tape_look_0b (s0 s : kM) (h0 : Fr (W_Tape_look) s0 s) (t : (kM) ⊕ (Int × kM)) (hf : f_Tape_look_0b s = some t) : (gE (fun x => Fr (W_Tape_look) s0 x) (fun r => Fr (W_Tape_look) s0 r.2)) t := by
  unfold f_Tape_look_0b at hf
  by_cases c1 : (s 1 1) ≤ (s 1 2)
  · have hf := gift c1 hf
    obtain ⟨t2, hg3, rfl⟩ := gmap hf
    exact w_Tape_look_19 s0 s h0 _ hg3
  · have hf := giff c1 hf
    obtain ⟨j4, i5, hf⟩ := gbI hf
    by_cases c6 : (s 2 j4) = 32
    · have hf := gift c6 hf
      obtain ⟨s9, ee10, hf⟩ := gbL hf
      have hF11 : Fr (W_Tape_look) s0 s9 := by rw [ee10]; exact Fr.u h0 (by simp [W_Tape_look])
      cases hf
      exact hF11
    · have hf := giff c6 hf
      obtain ⟨t7, hg8, rfl⟩ := gmap hf
      exact w_Tape_look_19 s0 s h0 _ hg8
theorem w_Tape_look_0 (s0 s : kM) (h0 : Fr (W_Tape_look) s0 s) (t : Int × kM) (hf : f_Tape_look_0 s = some t) : (fun r => Fr (W_Tape_look) s0 r.2) t :=
  gL_fr (P := fun (x : kM) => Fr (W_Tape_look) s0 x) (q := (fun r => Fr (W_Tape_look) s0 r.2)) (fun x t hf h0 => w_Tape_look_0b s0 x h0 t hf) gF (s) t hf h0
theorem w_Tape_look (s : kM) (t : Int × kM) (hf : f_Tape_look s = some t) : Fr (W_Tape_look) s t.2 := by
  unfold f_Tape_look at hf
  exact w_Tape_look_0 s s Fr.r t hf
def W_Tape_seesWord (t1 : Nat) : List Nat := [1]
theorem w_Tape_seesWord_55 (t1 : Nat) (x2 : Int) (x3 : Int) (s0 s : kM) (h0 : Fr (W_Tape_seesWord t1) s0 s) (t : Int × kM) (hf : f_Tape_seesWord_55 t1 x2 x3 s = some t) : (fun r => Fr (W_Tape_seesWord t1) s0 r.2) t := by
  unfold f_Tape_seesWord_55 at hf
  by_cases c1 : x3 = 0
  · have hf := gift c1 hf
    cases hf
    exact h0
  · have hf := giff c1 hf
    obtain ⟨z2, hf⟩ := gbJ hf
    by_cases c3 : x2 = ((kstrs.getD t1 []).length : Int)
    · have hf := gift c3 hf
      cases hf
      exact h0
    · have hf := giff c3 hf
      cases hf
      exact h0
theorem w_Tape_seesWord_52 (t1 : Nat) (x2 : Int) (y0 : Int) (s0 s : kM) (h0 : Fr (W_Tape_seesWord t1) s0 s) (t : (Int × Int) ⊕ (Int × kM)) (hf : f_Tape_seesWord_52 t1 x2 y0 s = some t) : (gE (fun x => Fr (W_Tape_seesWord t1) s0 s) (fun r => Fr (W_Tape_seesWord t1) s0 r.2)) t := by
  unfold f_Tape_seesWord_52 at hf
  cases hf
  exact h0
theorem w_Tape_seesWord_51 (t1 : Nat) (x2 : Int) (s0 s : kM) (h0 : Fr (W_Tape_seesWord t1) s0 s) (t : (Int × Int) ⊕ (Int × kM)) (hf : f_Tape_seesWord_51 t1 x2 s = some t) : (gE (fun x => Fr (W_Tape_seesWord t1) s0 s) (fun r => Fr (W_Tape_seesWord t1) s0 r.2)) t := by
  unfold f_Tape_seesWord_51 at hf
  exact w_Tape_seesWord_52 t1 x2 0 s0 s h0 _ hf
theorem w_Tape_seesWord_7b (t1 : Nat) (x2 : Int) (x3 : Int) (s0 s : kM) (h0 : Fr (W_Tape_seesWord t1) s0 s) (t : (Int × Int) ⊕ (Int × kM)) (hf : f_Tape_seesWord_7b t1 x2 x3 s = some t) : (gE (fun x => Fr (W_Tape_seesWord t1) s0 s) (fun r => Fr (W_Tape_seesWord t1) s0 r.2)) t := by
  unfold f_Tape_seesWord_7b at hf
  by_cases c1 : (s 1 1) ≤ (wI ((s 1 2) + x2))
  · have hf := gift c1 hf
    obtain ⟨t2, hg3, rfl⟩ := gmap hf
    exact w_Tape_seesWord_55 t1 x2 x3 s0 s h0 _ hg3
  · have hf := giff c1 hf
    obtain ⟨j4, i5, hf⟩ := gbI hf
    by_cases c6 : (s 2 j4) < 97
    · have hf := gift c6 hf
      obtain ⟨t7, hg8, rfl⟩ := gmap hf
      exact w_Tape_seesWord_55 t1 x2 x3 s0 s h0 _ hg8
    · have hf := giff c6 hf
      obtain ⟨j9, i10, hf⟩ := gbI hf
      by_cases c11 : 122 < (s 2 j9)
      · have hf := gift c11 hf
        obtain ⟨t12, hg13, rfl⟩ := gmap hf
        exact w_Tape_seesWord_55 t1 x2 x3 s0 s h0 _ hg13
      · have hf := giff c11 hf
        by_cases c14 : x3 = 0
        · have hf := gift c14 hf
          exact w_Tape_seesWord_51 t1 x2 s0 s h0 _ hf
        · have hf := giff c14 hf
          obtain ⟨z15, hf⟩ := gbJ hf
          by_cases c16 : ((kstrs.getD t1 []).length : Int) ≤ x2
          · have hf := gift c16 hf
            exact w_Tape_seesWord_51 t1 x2 s0 s h0 _ hf
          · have hf := giff c16 hf
            obtain ⟨j17, i18, hf⟩ := gbI hf
            obtain ⟨z19, hf⟩ := gbJ hf
            obtain ⟨j20, i21, hf⟩ := gbI hf
            by_cases c22 : (s 2 j17) = ((kstrs.getD t1 []).getD j20 0)
            · have hf := gift c22 hf
              exact w_Tape_seesWord_52 t1 x2 1 s0 s h0 _ hf
            · have hf := giff c22 hf
              exact w_Tape_seesWord_51 t1 x2 s0 s h0 _ hf
theorem w_Tape_seesWord_7 (t1 : Nat) (x2 : Int) (x3 : Int) (s0 s : kM) (h0 : Fr (W_Tape_seesWord t1) s0 s) (t : Int × kM) (hf : f_Tape_seesWord_7 t1 x2 x3 s = some t) : (fun r => Fr (W_Tape_seesWord t1) s0 r.2) t :=
  gL_fr (P := fun (x : Int × Int) => Fr (W_Tape_seesWord t1) s0 s) (q := (fun r => Fr (W_Tape_seesWord t1) s0 r.2)) (fun x t hf h0 => w_Tape_seesWord_7b t1 x.1 x.2 s0 s h0 t hf) gF (x2, x3) t hf h0
theorem w_Tape_seesWord (t1 : Nat) (s : kM) (t : Int × kM) (hf : f_Tape_seesWord t1 s = some t) : Fr (W_Tape_seesWord t1) s t.2 := by
  unfold f_Tape_seesWord at hf
  have h0 : Fr (W_Tape_seesWord t1) s s := Fr.r
  obtain ⟨q1, hq1, hf⟩ := gbind hf
  have hF2 : Fr (W_Tape_seesWord t1) s q1.2 := Fr.c h0 (w_Tape_look s _ hq1) (by intro a ha; simp only [W_Tape_seesWord, W_Tape_look, List.mem_cons, List.not_mem_nil, or_false, not_or] at ha ⊢; omega)
  exact w_Tape_seesWord_7 t1 0 1 s q1.2 hF2 _ hf
def W_Tape_fail : List Nat := [1]
theorem w_Tape_fail (x1 : Int) (s : kM) (t : kM) (hf : f_Tape_fail x1 s = some t) : Fr (W_Tape_fail) s t := by
  unfold f_Tape_fail at hf
  have h0 : Fr (W_Tape_fail) s s := Fr.r
  by_cases c1 : (s 1 3) = 0
  · have hf := gift c1 hf
    obtain ⟨s2, ee3, hf⟩ := gbL hf
    have hF4 : Fr (W_Tape_fail) s s2 := by rw [ee3]; exact Fr.u h0 (by simp [W_Tape_fail])
    cases hf
    exact hF4
  · have hf := giff c1 hf
    cases hf
    exact h0
def W_Tape_takeWord (t1 : Nat) : List Nat := [1]
theorem w_Tape_takeWord (t1 : Nat) (s : kM) (t : Int × kM) (hf : f_Tape_takeWord t1 s = some t) : Fr (W_Tape_takeWord t1) s t.2 := by
  unfold f_Tape_takeWord at hf
  have h0 : Fr (W_Tape_takeWord t1) s s := Fr.r
  obtain ⟨q1, hq1, hf⟩ := gbind hf
  have hF2 : Fr (W_Tape_takeWord t1) s q1.2 := Fr.c h0 (w_Tape_seesWord t1 s _ hq1) (by intro a ha; simp only [W_Tape_takeWord, W_Tape_seesWord, List.mem_cons, List.not_mem_nil, or_false, not_or] at ha ⊢; omega)
  by_cases c3 : q1.1 = 0
  · have hf := gift c3 hf
    cases hf
    exact hF2
  · have hf := giff c3 hf
    obtain ⟨z4, hf⟩ := gbJ hf
    obtain ⟨s5, ee6, hf⟩ := gbL hf
    have hF7 : Fr (W_Tape_takeWord t1) s s5 := by rw [ee6]; exact Fr.u hF2 (by simp [W_Tape_takeWord])
    cases hf
    exact hF7
def W_Tape_seesNumber : List Nat := [1]
theorem w_Tape_seesNumber (s : kM) (t : Int × kM) (hf : f_Tape_seesNumber s = some t) : Fr (W_Tape_seesNumber) s t.2 := by
  unfold f_Tape_seesNumber at hf
  have h0 : Fr (W_Tape_seesNumber) s s := Fr.r
  obtain ⟨q1, hq1, hf⟩ := gbind hf
  have hF2 : Fr (W_Tape_seesNumber) s q1.2 := Fr.c h0 (w_Tape_look s _ hq1) (by intro a ha; simp only [W_Tape_seesNumber, W_Tape_look, List.mem_cons, List.not_mem_nil, or_false, not_or] at ha ⊢; omega)
  by_cases c3 : q1.1 < 48
  · have hf := gift c3 hf
    cases hf
    exact hF2
  · have hf := giff c3 hf
    by_cases c4 : 57 < q1.1
    · have hf := gift c4 hf
      cases hf
      exact hF2
    · have hf := giff c4 hf
      cases hf
      exact hF2
def W_Tape_seenNumber : List Nat := [1]
theorem w_Tape_seenNumber_51 (s0 s : kM) (h0 : Fr (W_Tape_seenNumber) s0 s) (t : Int × kM) (hf : f_Tape_seenNumber_51 s = some t) : (fun r => Fr (W_Tape_seenNumber) s0 r.2) t := by
  unfold f_Tape_seenNumber_51 at hf
  obtain ⟨q1, hq1, hf⟩ := gbind hf
  have hF2 : Fr (W_Tape_seenNumber) s0 q1 := Fr.c h0 (w_Tape_fail 1 s _ hq1) (by intro a ha; simp only [W_Tape_seenNumber, W_Tape_fail, List.mem_cons, List.not_mem_nil, or_false, not_or] at ha ⊢; omega)
  cases hf
  exact hF2
theorem w_Tape_seenNumber_45 (x1 : Int) (x2 : Int) (x3 : Int) (s0 s : kM) (h0 : Fr (W_Tape_seenNumber) s0 s) (t : Int × kM) (hf : f_Tape_seenNumber_45 x1 x2 x3 s = some t) : (fun r => Fr (W_Tape_seenNumber) s0 r.2) t := by
  unfold f_Tape_seenNumber_45 at hf
  by_cases c1 : 5 < x2
  · have hf := gift c1 hf
    exact w_Tape_seenNumber_51 s0 s h0 _ hf
  · have hf := giff c1 hf
    by_cases c2 : x3 ≤ x1
    · have hf := gift c2 hf
      cases hf
      exact h0
    · have hf := giff c2 hf
      exact w_Tape_seenNumber_51 s0 s h0 _ hf
theorem w_Tape_seenNumber_16b (x1 : Int) (x2 : Int) (x3 : Int) (x4 : Int) (s0 s : kM) (h0 : Fr (W_Tape_seenNumber) s0 s) (t : (Int × Int) ⊕ (Int × kM)) (hf : f_Tape_seenNumber_16b x1 x2 x3 x4 s = some t) : (gE (fun x => Fr (W_Tape_seenNumber) s0 s) (fun r => Fr (W_Tape_seenNumber) s0 r.2)) t := by
  unfold f_Tape_seenNumber_16b at hf
  by_cases c1 : (wI ((s 1 2) + x2)) ≤ x4
  · have hf := gift c1 hf
    obtain ⟨t2, hg3, rfl⟩ := gmap hf
    exact w_Tape_seenNumber_45 x1 x2 x3 s0 s h0 _ hg3
  · have hf := giff c1 hf
    by_cases c4 : (wI ((s 1 2) + 5)) ≤ x4
    · have hf := gift c4 hf
      obtain ⟨t5, hg6, rfl⟩ := gmap hf
      exact w_Tape_seenNumber_45 x1 x2 x3 s0 s h0 _ hg6
    · have hf := giff c4 hf
      by_cases c7 : (s 1 1) ≤ x4
      · have hf := gift c7 hf
        obtain ⟨t8, hg9, rfl⟩ := gmap hf
        exact w_Tape_seenNumber_45 x1 x2 x3 s0 s h0 _ hg9
      · have hf := giff c7 hf
        obtain ⟨j10, i11, hf⟩ := gbI hf
        cases hf
        exact h0
theorem w_Tape_seenNumber_16 (x1 : Int) (x2 : Int) (x3 : Int) (x4 : Int) (s0 s : kM) (h0 : Fr (W_Tape_seenNumber) s0 s) (t : Int × kM) (hf : f_Tape_seenNumber_16 x1 x2 x3 x4 s = some t) : (fun r => Fr (W_Tape_seenNumber) s0 r.2) t :=
  gL_fr (P := fun (x : Int × Int) => Fr (W_Tape_seenNumber) s0 s) (q := (fun r => Fr (W_Tape_seenNumber) s0 r.2)) (fun x t hf h0 => w_Tape_seenNumber_16b x1 x2 x.1 x.2 s0 s h0 t hf) gF (x3, x4) t hf h0
theorem w_Tape_seenNumber (x1 : Int) (s : kM) (t : Int × kM) (hf : f_Tape_seenNumber x1 s = some t) : Fr (W_Tape_seenNumber) s t.2 := by
  unfold f_Tape_seenNumber at hf
  have h0 : Fr (W_Tape_seenNumber) s s := Fr.r
  obtain ⟨q1, hq1, hf⟩ := gbind hf
  have hF2 : Fr (W_Tape_seenNumber) s q1.2 := Fr.c h0 (w_Tape_seesNumber s _ hq1) (by intro a ha; simp only [W_Tape_seenNumber, W_Tape_seesNumber, List.mem_cons, List.not_mem_nil, or_false, not_or] at ha ⊢; omega)
  by_cases c3 : q1.1 = 0
  · have hf := gift c3 hf
    obtain ⟨q5, hq5, hf⟩ := gbind hf
    have hF6 : Fr (W_Tape_seenNumber) s q5 := Fr.c hF2 (w_Tape_fail 0 q1.2 _ hq5) (by intro a ha; simp only [W_Tape_seenNumber, W_Tape_fail, List.mem_cons, List.not_mem_nil, or_false, not_or] at ha ⊢; omega)
    cases hf
    exact hF6
  · have hf := giff c3 hf
    obtain ⟨q4, hq4, hf⟩ := gbind hf
    exact w_Tape_seenNumber_16 x1 q4 0 (q1.2 1 2) s q1.2 hF2 _ hf
def W_Tape_skipNumber : List Nat := [1]
theorem w_Tape_skipNumber (s : kM) (t : kM) (hf : f_Tape_skipNumber s = some t) : Fr (W_Tape_skipNumber) s t := by
  unfold f_Tape_skipNumber at hf
  have h0 : Fr (W_Tape_skipNumber) s s := Fr.r
  obtain ⟨q1, hq1, hf⟩ := gbind hf
  obtain ⟨s2, ee3, hf⟩ := gbL hf
  have hF4 : Fr (W_Tape_skipNumber) s s2 := by rw [ee3]; exact Fr.u h0 (by simp [W_Tape_skipNumber])
  cases hf
  exact hF4
def W_Town_append (b0 : Nat) : List Nat := [b0, b0 + 1]
theorem w_Town_append (b0 : Nat) (x1 : Int) (s : kM) (t : kM) (hf : f_Town_append b0 x1 s = some t) : Fr (W_Town_append b0) s t := by
  unfold f_Town_append at hf
  have h0 : Fr (W_Town_append b0) s s := Fr.r
  by_cases c1 : 22 ≤ (s b0 2)
  · have hf := gift c1 hf
    cases hf
    exact h0
  · have hf := giff c1 hf
    obtain ⟨j2, i3, hf⟩ := gbI hf
    obtain ⟨s4, ee5, hf⟩ := gbL hf
    have hF6 : Fr (W_Town_append b0) s s4 := by rw [ee5]; exact Fr.u h0 (by simp [W_Town_append])
    obtain ⟨s7, ee8, hf⟩ := gbL hf
    have hF9 : Fr (W_Town_append b0) s s7 := by rw [ee8]; exact Fr.u hF6 (by simp [W_Town_append])
    cases hf
    exact hF9
def W_Tape_takeSign : List Nat := [1]
theorem w_Tape_takeSign (x1 : Int) (s : kM) (t : Int × kM) (hf : f_Tape_takeSign x1 s = some t) : Fr (W_Tape_takeSign) s t.2 := by
  unfold f_Tape_takeSign at hf
  have h0 : Fr (W_Tape_takeSign) s s := Fr.r
  obtain ⟨q1, hq1, hf⟩ := gbind hf
  have hF2 : Fr (W_Tape_takeSign) s q1.2 := Fr.c h0 (w_Tape_look s _ hq1) (by intro a ha; simp only [W_Tape_takeSign, W_Tape_look, List.mem_cons, List.not_mem_nil, or_false, not_or] at ha ⊢; omega)
  by_cases c3 : q1.1 = x1
  · have hf := gift c3 hf
    obtain ⟨s4, ee5, hf⟩ := gbL hf
    have hF6 : Fr (W_Tape_takeSign) s s4 := by rw [ee5]; exact Fr.u hF2 (by simp [W_Tape_takeSign])
    cases hf
    exact hF6
  · have hf := giff c3 hf
    cases hf
    exact hF2
def W_TownText_readHand (b1 : Nat) : List Nat := [b1 + 2, 1]
theorem w_TownText_readHand (b1 : Nat) (x2 : Int) (s : kM) (t : kM) (hf : f_TownText_readHand b1 x2 s = some t) : Fr (W_TownText_readHand b1) s t := by
  unfold f_TownText_readHand at hf
  have h0 : Fr (W_TownText_readHand b1) s s := Fr.r
  obtain ⟨q1, hq1, hf⟩ := gbind hf
  have hF2 : Fr (W_TownText_readHand b1) s q1.2 := Fr.c h0 (w_Tape_takeSign 43 s _ hq1) (by intro a ha; simp only [W_TownText_readHand, W_Tape_takeSign, List.mem_cons, List.not_mem_nil, or_false, not_or] at ha ⊢; omega)
  by_cases c3 : q1.1 = 0
  · have hf := gift c3 hf
    obtain ⟨q4, hq4, hf⟩ := gbind hf
    have hF5 : Fr (W_TownText_readHand b1) s q4.2 := Fr.c hF2 (w_Tape_takeSign 45 q1.2 _ hq4) (by intro a ha; simp only [W_TownText_readHand, W_Tape_takeSign, List.mem_cons, List.not_mem_nil, or_false, not_or] at ha ⊢; omega)
    by_cases c6 : q4.1 = 0
    · have hf := gift c6 hf
      obtain ⟨q7, hq7, hf⟩ := gbind hf
      have hF8 : Fr (W_TownText_readHand b1) s q7 := Fr.c hF5 (w_Tape_fail 0 q4.2 _ hq7) (by intro a ha; simp only [W_TownText_readHand, W_Tape_fail, List.mem_cons, List.not_mem_nil, or_false, not_or] at ha ⊢; omega)
      cases hf
      exact hF8
    · have hf := giff c6 hf
      obtain ⟨j9, i10, hf⟩ := gbI hf
      obtain ⟨s11, ee12, hf⟩ := gbL hf
      have hF13 : Fr (W_TownText_readHand b1) s s11 := by rw [ee12]; exact Fr.u hF5 (by simp [W_TownText_readHand])
      cases hf
      exact hF13
  · have hf := giff c3 hf
    obtain ⟨j14, i15, hf⟩ := gbI hf
    obtain ⟨s16, ee17, hf⟩ := gbL hf
    have hF18 : Fr (W_TownText_readHand b1) s s16 := by rw [ee17]; exact Fr.u hF2 (by simp [W_TownText_readHand])
    cases hf
    exact hF18
def W_TownText_readPass (b1 : Nat) : List Nat := [b1, b1 + 1, b1 + 2, 1]
theorem w_TownText_readPass_28 (b1 : Nat) (x2 : Int) (x3 : Int) (y0 : Int) (y1 : Int) (s0 s : kM) (h0 : Fr (W_TownText_readPass b1) s0 s) (t : Int × kM) (hf : f_TownText_readPass_28 b1 x2 x3 y0 y1 s = some t) : (fun r => Fr (W_TownText_readPass b1) s0 r.2) t := by
  unfold f_TownText_readPass_28 at hf
  obtain ⟨q1, hq1, hf⟩ := gbind hf
  by_cases c2 : q1 = 0
  · have hf := gift c2 hf
    obtain ⟨q3, hq3, hf⟩ := gbind hf
    have hF4 : Fr (W_TownText_readPass b1) s0 q3 := Fr.c h0 (w_Tape_skipNumber s _ hq3) (by intro a ha; simp only [W_TownText_readPass, W_Tape_skipNumber, List.mem_cons, List.not_mem_nil, or_false, not_or] at ha ⊢; omega)
    obtain ⟨q5, hq5, hf⟩ := gbind hf
    have hF6 : Fr (W_TownText_readPass b1) s0 q5 := Fr.c hF4 (w_Town_append b1 (wI (y0 + y1)) q3 _ hq5) (by intro a ha; simp only [W_TownText_readPass, W_Town_append, List.mem_cons, List.not_mem_nil, or_false, not_or] at ha ⊢; omega)
    by_cases c7 : x2 = 0
    · have hf := gift c7 hf
      cases hf
      exact hF6
    · have hf := giff c7 hf
      obtain ⟨q8, hq8, hf⟩ := gbind hf
      have hF9 : Fr (W_TownText_readPass b1) s0 q8 := Fr.c hF6 (w_TownText_readHand b1 x3 q5 _ hq8) (by intro a ha; simp only [W_TownText_readPass, W_TownText_readHand, List.mem_cons, List.not_mem_nil, or_false, not_or] at ha ⊢; omega)
      cases hf
      exact hF9
  · have hf := giff c2 hf
    obtain ⟨q10, hq10, hf⟩ := gbind hf
    have hF11 : Fr (W_TownText_readPass b1) s0 q10 := Fr.c h0 (w_Tape_fail 5 s _ hq10) (by intro a ha; simp only [W_TownText_readPass, W_Tape_fail, List.mem_cons, List.not_mem_nil, or_false, not_or] at ha ⊢; omega)
    cases hf
    exact hF11
theorem w_TownText_readPass_12 (b1 : Nat) (x2 : Int) (s0 s : kM) (h0 : Fr (W_TownText_readPass b1) s0 s) (t : Int × kM) (hf : f_TownText_readPass_12 b1 x2 s = some t) : (fun r => Fr (W_TownText_readPass b1) s0 r.2) t := by
  unfold f_TownText_readPass_12 at hf
  obtain ⟨q1, hq1, hf⟩ := gbind hf
  have hF2 : Fr (W_TownText_readPass b1) s0 q1.2 := Fr.c h0 (w_Tape_seenNumber 10 s _ hq1) (by intro a ha; simp only [W_TownText_readPass, W_Tape_seenNumber, List.mem_cons, List.not_mem_nil, or_false, not_or] at ha ⊢; omega)
  by_cases c3 : 0 ≤ q1.1
  · have hf := gift c3 hf
    by_cases c4 : x2 = 0
    · have hf := gift c4 hf
      exact w_TownText_readPass_28 b1 x2 q1.1 (wI (2 * q1.1)) 0 s0 q1.2 hF2 _ hf
    · have hf := giff c4 hf
      exact w_TownText_readPass_28 b1 x2 q1.1 (wI (2 * q1.1)) 1 s0 q1.2 hF2 _ hf
  · have hf := giff c3 hf
    cases hf
    exact hF2
theorem w_TownText_readPass (b1 : Nat) (s : kM) (t : Int × kM) (hf : f_TownText_readPass b1 s = some t) : Fr (W_TownText_readPass b1) s t.2 := by
  unfold f_TownText_readPass at hf
  have h0 : Fr (W_TownText_readPass b1) s s := Fr.r
  obtain ⟨q1, hq1, hf⟩ := gbind hf
  have hF2 : Fr (W_TownText_readPass b1) s q1.2 := Fr.c h0 (w_Tape_takeWord 1 s _ hq1) (by intro a ha; simp only [W_TownText_readPass, W_Tape_takeWord, List.mem_cons, List.not_mem_nil, or_false, not_or] at ha ⊢; omega)
  by_cases c3 : q1.1 = 0
  · have hf := gift c3 hf
    obtain ⟨q4, hq4, hf⟩ := gbind hf
    have hF5 : Fr (W_TownText_readPass b1) s q4.2 := Fr.c hF2 (w_Tape_takeWord 2 q1.2 _ hq4) (by intro a ha; simp only [W_TownText_readPass, W_Tape_takeWord, List.mem_cons, List.not_mem_nil, or_false, not_or] at ha ⊢; omega)
    by_cases c6 : q4.1 = 0
    · have hf := gift c6 hf
      cases hf
      exact hF5
    · have hf := giff c6 hf
      exact w_TownText_readPass_12 b1 q1.1 s q4.2 hF5 _ hf
  · have hf := giff c3 hf
    exact w_TownText_readPass_12 b1 q1.1 s q1.2 hF2 _ hf
def W_TownText_readRoad (b1 : Nat) : List Nat := [b1, b1 + 1, b1 + 2, 1]
theorem w_TownText_readRoad_48 (b1 : Nat) (s0 s : kM) (h0 : Fr (W_TownText_readRoad b1) s0 s) (t : kM) (hf : f_TownText_readRoad_48 b1 s = some t) : (fun r => Fr (W_TownText_readRoad b1) s0 r) t := by
  unfold f_TownText_readRoad_48 at hf
  by_cases c1 : (s b1 0) = 1
  · have hf := gift c1 hf
    obtain ⟨s2, ee3, hf⟩ := gbL hf
    have hF4 : Fr (W_TownText_readRoad b1) s0 s2 := by rw [ee3]; exact Fr.u h0 (by simp [W_TownText_readRoad])
    cases hf
    exact hF4
  · have hf := giff c1 hf
    cases hf
    exact h0
theorem w_TownText_readRoad_45 (b1 : Nat) (x3 : Int) (y0 : Int) (s0 s : kM) (h0 : Fr (W_TownText_readRoad b1) s0 s) (t : (Int × Int × kM) ⊕ (kM)) (hf : f_TownText_readRoad_45 b1 x3 y0 s = some t) : (gE (fun x => Fr (W_TownText_readRoad b1) s0 x.2.2) (fun r => Fr (W_TownText_readRoad b1) s0 r)) t := by
  unfold f_TownText_readRoad_45 at hf
  cases hf
  exact h0
theorem w_TownText_readRoad_44 (b1 : Nat) (x3 : Int) (s0 s : kM) (h0 : Fr (W_TownText_readRoad b1) s0 s) (t : (Int × Int × kM) ⊕ (kM)) (hf : f_TownText_readRoad_44 b1 x3 s = some t) : (gE (fun x => Fr (W_TownText_readRoad b1) s0 x.2.2) (fun r => Fr (W_TownText_readRoad b1) s0 r)) t := by
  unfold f_TownText_readRoad_44 at hf
  exact w_TownText_readRoad_45 b1 x3 0 s0 s h0 _ hf
theorem w_TownText_readRoad_30b (b1 : Nat) (x2 : Int) (x3 : Int) (s0 s : kM) (h0 : Fr (W_TownText_readRoad b1) s0 s) (t : (Int × Int × kM) ⊕ (kM)) (hf : f_TownText_readRoad_30b b1 x2 x3 s = some t) : (gE (fun x => Fr (W_TownText_readRoad b1) s0 x.2.2) (fun r => Fr (W_TownText_readRoad b1) s0 r)) t := by
  unfold f_TownText_readRoad_30b at hf
  by_cases c1 : 22 < x3
  · have hf := gift c1 hf
    obtain ⟨t2, hg3, rfl⟩ := gmap hf
    exact w_TownText_readRoad_48 b1 s0 s h0 _ hg3
  · have hf := giff c1 hf
    by_cases c4 : x2 = 0
    · have hf := gift c4 hf
      obtain ⟨t5, hg6, rfl⟩ := gmap hf
      exact w_TownText_readRoad_48 b1 s0 s h0 _ hg6
    · have hf := giff c4 hf
      obtain ⟨q7, hq7, hf⟩ := gbind hf
      have hF8 : Fr (W_TownText_readRoad b1) s0 q7.2 := Fr.c h0 (w_TownText_readPass b1 s _ hq7) (by intro a ha; simp only [W_TownText_readRoad, W_TownText_readPass, List.mem_cons, List.not_mem_nil, or_false, not_or] at ha ⊢; omega)
      by_cases c9 : q7.1 = 0
      · have hf := gift c9 hf
        exact w_TownText_readRoad_44 b1 x3 s0 q7.2 hF8 _ hf
      · have hf := giff c9 hf
        by_cases c10 : (q7.2 1 3) = 0
        · have hf := gift c10 hf
          exact w_TownText_readRoad_45 b1 x3 1 s0 q7.2 hF8 _ hf
        · have hf := giff c10 hf
          exact w_TownText_readRoad_44 b1 x3 s0 q7.2 hF8 _ hf
theorem w_TownText_readRoad_30 (b1 : Nat) (x2 : Int) (x3 : Int) (s0 s : kM) (h0 : Fr (W_TownText_readRoad b1) s0 s) (t : kM) (hf : f_TownText_readRoad_30 b1 x2 x3 s = some t) : (fun r => Fr (W_TownText_readRoad b1) s0 r) t :=
  gL_fr (P := fun (x : Int × Int × kM) => Fr (W_TownText_readRoad b1) s0 x.2.2) (q := (fun r => Fr (W_TownText_readRoad b1) s0 r)) (fun x t hf h0 => w_TownText_readRoad_30b b1 x.1 x.2.1 s0 x.2.2 h0 t hf) gF (x2, x3, s) t hf h0
theorem w_TownText_readRoad (b1 : Nat) (s : kM) (t : kM) (hf : f_TownText_readRoad b1 s = some t) : Fr (W_TownText_readRoad b1) s t := by
  unfold f_TownText_readRoad at hf
  have h0 : Fr (W_TownText_readRoad b1) s s := Fr.r
  obtain ⟨q1, hq1, hf⟩ := gbind hf
  have hF2 : Fr (W_TownText_readRoad b1) s q1.2 := Fr.c h0 (w_Tape_seesWord 0 s _ hq1) (by intro a ha; simp only [W_TownText_readRoad, W_Tape_seesWord, List.mem_cons, List.not_mem_nil, or_false, not_or] at ha ⊢; omega)
  by_cases c3 : q1.1 = 0
  · have hf := gift c3 hf
    obtain ⟨q12, hq12, hf⟩ := gbind hf
    have hF13 : Fr (W_TownText_readRoad b1) s q12 := Fr.c hF2 (w_Tape_fail 0 q1.2 _ hq12) (by intro a ha; simp only [W_TownText_readRoad, W_Tape_fail, List.mem_cons, List.not_mem_nil, or_false, not_or] at ha ⊢; omega)
    cases hf
    exact hF13
  · have hf := giff c3 hf
    by_cases c4 : (q1.2 b1 0) = 2
    · have hf := gift c4 hf
      obtain ⟨q10, hq10, hf⟩ := gbind hf
      have hF11 : Fr (W_TownText_readRoad b1) s q10 := Fr.c hF2 (w_Tape_fail 4 q1.2 _ hq10) (by intro a ha; simp only [W_TownText_readRoad, W_Tape_fail, List.mem_cons, List.not_mem_nil, or_false, not_or] at ha ⊢; omega)
      cases hf
      exact hF11
    · have hf := giff c4 hf
      obtain ⟨q5, hq5, hf⟩ := gbind hf
      have hF6 : Fr (W_TownText_readRoad b1) s q5.2 := Fr.c hF2 (w_Tape_takeWord 0 q1.2 _ hq5) (by intro a ha; simp only [W_TownText_readRoad, W_Tape_takeWord, List.mem_cons, List.not_mem_nil, or_false, not_or] at ha ⊢; omega)
      obtain ⟨s7, ee8, hf⟩ := gbL hf
      have hF9 : Fr (W_TownText_readRoad b1) s s7 := by rw [ee8]; exact Fr.u hF6 (by simp [W_TownText_readRoad])
      exact w_TownText_readRoad_30 b1 1 0 s s7 hF9 _ hf
def W_Land_list (b0 : Nat) : List Nat := [b0, b0 + 1, b0 + 2]
theorem w_Land_list_44 (b0 : Nat) (x1 : Int) (x2 : Int) (x3 : Int) (s0 s : kM) (h0 : Fr (W_Land_list b0) s0 s) (t : kM) (hf : f_Land_list_44 b0 x1 x2 x3 s = some t) : (fun r => Fr (W_Land_list b0) s0 r) t := by
  unfold f_Land_list_44 at hf
  obtain ⟨j1, i2, hf⟩ := gbI hf
  obtain ⟨s3, ee4, hf⟩ := gbL hf
  have hF5 : Fr (W_Land_list b0) s0 s3 := by rw [ee4]; exact Fr.u h0 (by simp [W_Land_list])
  obtain ⟨j6, i7, hf⟩ := gbI hf
  obtain ⟨s8, ee9, hf⟩ := gbL hf
  have hF10 : Fr (W_Land_list b0) s0 s8 := by rw [ee9]; exact Fr.u hF5 (by simp [W_Land_list])
  obtain ⟨s11, ee12, hf⟩ := gbL hf
  have hF13 : Fr (W_Land_list b0) s0 s11 := by rw [ee12]; exact Fr.u hF10 (by simp [W_Land_list])
  cases hf
  exact hF13
theorem w_Land_list_12b (b0 : Nat) (x1 : Int) (x2 : Int) (x3 : Int) (s0 s : kM) (h0 : Fr (W_Land_list b0) s0 s) (t : (Int × kM) ⊕ (kM)) (hf : f_Land_list_12b b0 x1 x2 x3 s = some t) : (gE (fun x => Fr (W_Land_list b0) s0 x.2) (fun r => Fr (W_Land_list b0) s0 r)) t := by
  unfold f_Land_list_12b at hf
  by_cases c1 : x3 ≤ 0
  · have hf := gift c1 hf
    obtain ⟨t2, hg3, rfl⟩ := gmap hf
    exact w_Land_list_44 b0 x1 x2 x3 s0 s h0 _ hg3
  · have hf := giff c1 hf
    obtain ⟨j4, i5, hf⟩ := gbI hf
    by_cases c6 : (s (b0 + 1) j4) ≤ x1
    · have hf := gift c6 hf
      obtain ⟨t7, hg8, rfl⟩ := gmap hf
      exact w_Land_list_44 b0 x1 x2 x3 s0 s h0 _ hg8
    · have hf := giff c6 hf
      obtain ⟨j9, i10, hf⟩ := gbI hf
      obtain ⟨j11, i12, hf⟩ := gbI hf
      obtain ⟨s13, ee14, hf⟩ := gbL hf
      have hF15 : Fr (W_Land_list b0) s0 s13 := by rw [ee14]; exact Fr.u h0 (by simp [W_Land_list])
      obtain ⟨j16, i17, hf⟩ := gbI hf
      obtain ⟨j18, i19, hf⟩ := gbI hf
      obtain ⟨s20, ee21, hf⟩ := gbL hf
      have hF22 : Fr (W_Land_list b0) s0 s20 := by rw [ee21]; exact Fr.u hF15 (by simp [W_Land_list])
      cases hf
      exact hF22
theorem w_Land_list_12 (b0 : Nat) (x1 : Int) (x2 : Int) (x3 : Int) (s0 s : kM) (h0 : Fr (W_Land_list b0) s0 s) (t : kM) (hf : f_Land_list_12 b0 x1 x2 x3 s = some t) : (fun r => Fr (W_Land_list b0) s0 r) t :=
  gL_fr (P := fun (x : Int × kM) => Fr (W_Land_list b0) s0 x.2) (q := (fun r => Fr (W_Land_list b0) s0 r)) (fun x t hf h0 => w_Land_list_12b b0 x1 x2 x.1 s0 x.2 h0 t hf) gF (x3, s) t hf h0
theorem w_Land_list (b0 : Nat) (x1 : Int) (x2 : Int) (s : kM) (t : kM) (hf : f_Land_list b0 x1 x2 s = some t) : Fr (W_Land_list b0) s t := by
  unfold f_Land_list at hf
  have h0 : Fr (W_Land_list b0) s s := Fr.r
  by_cases c1 : 48 ≤ (s b0 6)
  · have hf := gift c1 hf
    cases hf
    exact h0
  · have hf := giff c1 hf
    obtain ⟨q2, hq2, hf⟩ := gbind hf
    by_cases c3 : q2 < 0
    · have hf := gift c3 hf
      exact w_Land_list_12 b0 x1 x2 (s b0 6) s s h0 _ hf
    · have hf := giff c3 hf
      cases hf
      exact h0
def W_Land_lookRound (b0 : Nat) (b1 : Nat) : List Nat := [b0, b0 + 1, b0 + 2, b0 + 3]
theorem w_Land_lookRound_88 (b0 : Nat) (b1 : Nat) (x2 : Int) (s0 s : kM) (h0 : Fr (W_Land_lookRound b0 b1) s0 s) (t : kM) (hf : f_Land_lookRound_88 b0 b1 x2 s = some t) : (fun r => Fr (W_Land_lookRound b0 b1) s0 r) t := by
  unfold f_Land_lookRound_88 at hf
  obtain ⟨q1, hq1, hf⟩ := gbind hf
  obtain ⟨q2, hq2, hf⟩ := gbind hf
  have hF3 : Fr (W_Land_lookRound b0 b1) s0 q2 := Fr.c h0 (w_Land_list b0 q1 0 s _ hq2) (by intro a ha; simp only [W_Land_lookRound, W_Land_list, List.mem_cons, List.not_mem_nil, or_false, not_or] at ha ⊢; omega)
  cases hf
  exact hF3
theorem w_Land_lookRound_51 (b0 : Nat) (b1 : Nat) (x2 : Int) (x3 : Int) (x4 : Int) (x5 : Int) (x8 : Int) (y0 : Int) (s0 s : kM) (h0 : Fr (W_Land_lookRound b0 b1) s0 s) (t : kM) (hf : f_Land_lookRound_51 b0 b1 x2 x3 x4 x5 x8 y0 s = some t) : (fun r => Fr (W_Land_lookRound b0 b1) s0 r) t := by
  unfold f_Land_lookRound_51 at hf
  obtain ⟨j1, i2, hf⟩ := gbI hf
  obtain ⟨s3, ee4, hf⟩ := gbL hf
  have hF5 : Fr (W_Land_lookRound b0 b1) s0 s3 := by rw [ee4]; exact Fr.u h0 (by simp [W_Land_lookRound])
  obtain ⟨j6, i7, hf⟩ := gbI hf
  obtain ⟨s8, ee9, hf⟩ := gbL hf
  have hF10 : Fr (W_Land_lookRound b0 b1) s0 s8 := by rw [ee9]; exact Fr.u hF5 (by simp [W_Land_lookRound])
  obtain ⟨j11, i12, hf⟩ := gbI hf
  obtain ⟨s13, ee14, hf⟩ := gbL hf
  have hF15 : Fr (W_Land_lookRound b0 b1) s0 s13 := by rw [ee14]; exact Fr.u hF10 (by simp [W_Land_lookRound])
  obtain ⟨j16, i17, hf⟩ := gbI hf
  obtain ⟨s18, ee19, hf⟩ := gbL hf
  have hF20 : Fr (W_Land_lookRound b0 b1) s0 s18 := by rw [ee19]; exact Fr.u hF15 (by simp [W_Land_lookRound])
  obtain ⟨j21, i22, hf⟩ := gbI hf
  by_cases c23 : (s18 (b1 + 3) j21) = x4
  · have hf := gift c23 hf
    exact w_Land_lookRound_88 b0 b1 x2 s0 s18 hF20 _ hf
  · have hf := giff c23 hf
    obtain ⟨j24, i25, hf⟩ := gbI hf
    by_cases c26 : (s18 (b1 + 3) j24) = x3
    · have hf := gift c26 hf
      exact w_Land_lookRound_88 b0 b1 x2 s0 s18 hF20 _ hf
    · have hf := giff c26 hf
      cases hf
      exact hF20
theorem w_Land_lookRound_43 (b0 : Nat) (b1 : Nat) (x2 : Int) (x3 : Int) (x4 : Int) (x5 : Int) (x6 : Int) (x7 : Int) (y0 : Int) (s0 s : kM) (h0 : Fr (W_Land_lookRound b0 b1) s0 s) (t : kM) (hf : f_Land_lookRound_43 b0 b1 x2 x3 x4 x5 x6 x7 y0 s = some t) : (fun r => Fr (W_Land_lookRound b0 b1) s0 r) t := by
  unfold f_Land_lookRound_43 at hf
  by_cases c1 : x7 = 0
  · have hf := gift c1 hf
    exact w_Land_lookRound_51 b0 b1 x2 x3 x4 x5 y0 (wI (2 * x4)) s0 s h0 _ hf
  · have hf := giff c1 hf
    exact w_Land_lookRound_51 b0 b1 x2 x3 x4 x5 y0 x6 s0 s h0 _ hf
theorem w_Land_lookRound_35 (b0 : Nat) (b1 : Nat) (x2 : Int) (x3 : Int) (x4 : Int) (x5 : Int) (x6 : Int) (y0 : Int) (s0 s : kM) (h0 : Fr (W_Land_lookRound b0 b1) s0 s) (t : kM) (hf : f_Land_lookRound_35 b0 b1 x2 x3 x4 x5 x6 y0 s = some t) : (fun r => Fr (W_Land_lookRound b0 b1) s0 r) t := by
  unfold f_Land_lookRound_35 at hf
  by_cases c1 : y0 = 0
  · have hf := gift c1 hf
    exact w_Land_lookRound_43 b0 b1 x2 x3 x4 x5 x6 y0 x6 s0 s h0 _ hf
  · have hf := giff c1 hf
    exact w_Land_lookRound_43 b0 b1 x2 x3 x4 x5 x6 y0 (wI (2 * x4)) s0 s h0 _ hf
theorem w_Land_lookRound (b0 : Nat) (b1 : Nat) (x2 : Int) (s : kM) (t : kM) (hf : f_Land_lookRound b0 b1 x2 s = some t) : Fr (W_Land_lookRound b0 b1) s t := by
  unfold f_Land_lookRound at hf
  have h0 : Fr (W_Land_lookRound b0 b1) s s := Fr.r
  obtain ⟨q1, hq1, hf⟩ := gbind hf
  obtain ⟨q2, hq2, hf⟩ := gbind hf
  obtain ⟨j3, i4, hf⟩ := gbI hf
  obtain ⟨j5, i6, hf⟩ := gbI hf
  obtain ⟨j7, i8, hf⟩ := gbI hf
  by_cases c9 : (s (b1 + 2) j7) = 1
  · have hf := gift c9 hf
    exact w_Land_lookRound_35 b0 b1 x2 q1 q2 (wI ((wI (2 * (s (b1 + 4) j3))) + 1)) (wI ((wI (2 * (s (b1 + 4) j5))) + 1)) 1 s s h0 _ hf
  · have hf := giff c9 hf
    exact w_Land_lookRound_35 b0 b1 x2 q1 q2 (wI ((wI (2 * (s (b1 + 4) j3))) + 1)) (wI ((wI (2 * (s (b1 + 4) j5))) + 1)) 0 s s h0 _ hf
def W_Land_listApart (b0 : Nat) (b1 : Nat) : List Nat := [b0, b0 + 1, b0 + 2]
theorem w_Land_listApart (b0 : Nat) (b1 : Nat) (x2 : Int) (s : kM) (t : kM) (hf : f_Land_listApart b0 b1 x2 s = some t) : Fr (W_Land_listApart b0 b1) s t := by
  unfold f_Land_listApart at hf
  have h0 : Fr (W_Land_listApart b0 b1) s s := Fr.r
  obtain ⟨q1, hq1, hf⟩ := gbind hf
  obtain ⟨q2, hq2, hf⟩ := gbind hf
  obtain ⟨q3, hq3, hf⟩ := gbind hf
  obtain ⟨q4, hq4, hf⟩ := gbind hf
  obtain ⟨q5, hq5, hf⟩ := gbind hf
  by_cases c6 : q1 = q2
  · have hf := gift c6 hf
    cases hf
    exact h0
  · have hf := giff c6 hf
    by_cases c7 : (kor (kshl 1 q3) (kshl 1 q5)) = 5
    · have hf := gift c7 hf
      obtain ⟨q8, hq8, hf⟩ := gbind hf
      obtain ⟨q9, hq9, hf⟩ := gbind hf
      have hF10 : Fr (W_Land_listApart b0 b1) s q9 := Fr.c h0 (w_Land_list b0 q8 x2 s _ hq9) (by intro a ha; simp only [W_Land_listApart, W_Land_list, List.mem_cons, List.not_mem_nil, or_false, not_or] at ha ⊢; omega)
      cases hf
      exact hF10
    · have hf := giff c7 hf
      cases hf
      exact h0
def W_Land_listSlide (b0 : Nat) (b1 : Nat) : List Nat := [b0, b0 + 1, b0 + 2]
theorem w_Land_listSlide (b0 : Nat) (b1 : Nat) (x2 : Int) (s : kM) (t : kM) (hf : f_Land_listSlide b0 b1 x2 s = some t) : Fr (W_Land_listSlide b0 b1) s t := by
  unfold f_Land_listSlide at hf
  have h0 : Fr (W_Land_listSlide b0 b1) s s := Fr.r
  obtain ⟨q1, hq1, hf⟩ := gbind hf
  obtain ⟨q2, hq2, hf⟩ := gbind hf
  obtain ⟨q3, hq3, hf⟩ := gbind hf
  obtain ⟨q4, hq4, hf⟩ := gbind hf
  obtain ⟨q5, hq5, hf⟩ := gbind hf
  obtain ⟨q6, hq6, hf⟩ := gbind hf
  obtain ⟨q7, hq7, hf⟩ := gbind hf
  obtain ⟨q8, hq8, hf⟩ := gbind hf
  by_cases c9 : q3 = q4
  · have hf := gift c9 hf
    cases hf
    exact h0
  · have hf := giff c9 hf
    by_cases c10 : q4 = q5
    · have hf := gift c10 hf
      cases hf
      exact h0
    · have hf := giff c10 hf
      by_cases c11 : q3 = q5
      · have hf := gift c11 hf
        cases hf
        exact h0
      · have hf := giff c11 hf
        by_cases c12 : (kor (kor (kshl 1 q6) (kshl 1 q7)) (kshl 1 q8)) = 7
        · have hf := gift c12 hf
          obtain ⟨q13, hq13, hf⟩ := gbind hf
          obtain ⟨q14, hq14, hf⟩ := gbind hf
          have hF15 : Fr (W_Land_listSlide b0 b1) s q14 := Fr.c h0 (w_Land_list b0 q13 x2 s _ hq14) (by intro a ha; simp only [W_Land_listSlide, W_Land_list, List.mem_cons, List.not_mem_nil, or_false, not_or] at ha ⊢; omega)
          cases hf
          exact hF15
        · have hf := giff c12 hf
          cases hf
          exact h0
def W_Land_survey (b0 : Nat) (b1 : Nat) : List Nat := [b0, b0 + 1, b0 + 2, b0 + 3]
theorem w_Land_survey_98 (b0 : Nat) (b1 : Nat) (x2 : Int) (x4 : Int) (s0 s : kM) (h0 : Fr (W_Land_survey b0 b1) s0 s) (t : (Int × Int × kM) ⊕ (kM)) (hf : f_Land_survey_98 b0 b1 x2 x4 s = some t) : (gE (fun x => Fr (W_Land_survey b0 b1) s0 x.2.2) (fun r => Fr (W_Land_survey b0 b1) s0 r)) t := by
  unfold f_Land_survey_98 at hf
  cases hf
  exact h0
theorem w_Land_survey_34b (b0 : Nat) (b1 : Nat) (x2 : Int) (x4 : Int) (s0 s : kM) (h0 : Fr (W_Land_survey b0 b1) s0 s) (t : (Int × Int × kM) ⊕ (kM)) (hf : f_Land_survey_34b b0 b1 x2 x4 s = some t) : (gE (fun x => Fr (W_Land_survey b0 b1) s0 x.2.2) (fun r => Fr (W_Land_survey b0 b1) s0 r)) t := by
  unfold f_Land_survey_34b at hf
  by_cases c1 : (wI (2 * (s b1 2))) ≤ x4
  · have hf := gift c1 hf
    cases hf
    exact h0
  · have hf := giff c1 hf
    by_cases c2 : (klnd (klshr x2 x4) 1) = 0
    · have hf := gift c2 hf
      obtain ⟨q3, hq3, hf⟩ := gbind hf
      obtain ⟨q4, hq4, hf⟩ := gbind hf
      obtain ⟨s5, ee6, hf⟩ := gbL hf
      have hF7 : Fr (W_Land_survey b0 b1) s0 s5 := by rw [ee6]; exact Fr.u h0 (by simp [W_Land_survey])
      obtain ⟨q8, hq8, hf⟩ := gbind hf
      obtain ⟨s9, ee10, hf⟩ := gbL hf
      have hF11 : Fr (W_Land_survey b0 b1) s0 s9 := by rw [ee10]; exact Fr.u hF7 (by simp [W_Land_survey])
      by_cases c12 : q4 = 2
      · have hf := gift c12 hf
        obtain ⟨s19, ee20, hf⟩ := gbL hf
        have hF21 : Fr (W_Land_survey b0 b1) s0 s19 := by rw [ee20]; exact Fr.u hF11 (by simp [W_Land_survey])
        obtain ⟨q22, hq22, hf⟩ := gbind hf
        have hF23 : Fr (W_Land_survey b0 b1) s0 q22 := Fr.c hF21 (w_Land_listApart b0 b1 x4 s19 _ hq22) (by intro a ha; simp only [W_Land_survey, W_Land_listApart, List.mem_cons, List.not_mem_nil, or_false, not_or] at ha ⊢; omega)
        exact w_Land_survey_98 b0 b1 (klor x2 q3) x4 s0 q22 hF23 _ hf
      · have hf := giff c12 hf
        by_cases c13 : q4 = 3
        · have hf := gift c13 hf
          obtain ⟨s14, ee15, hf⟩ := gbL hf
          have hF16 : Fr (W_Land_survey b0 b1) s0 s14 := by rw [ee15]; exact Fr.u hF11 (by simp [W_Land_survey])
          obtain ⟨q17, hq17, hf⟩ := gbind hf
          have hF18 : Fr (W_Land_survey b0 b1) s0 q17 := Fr.c hF16 (w_Land_listSlide b0 b1 x4 s14 _ hq17) (by intro a ha; simp only [W_Land_survey, W_Land_listSlide, List.mem_cons, List.not_mem_nil, or_false, not_or] at ha ⊢; omega)
          exact w_Land_survey_98 b0 b1 (klor x2 q3) x4 s0 q17 hF18 _ hf
        · have hf := giff c13 hf
          exact w_Land_survey_98 b0 b1 (klor x2 q3) x4 s0 s9 hF11 _ hf
    · have hf := giff c2 hf
      exact w_Land_survey_98 b0 b1 x2 x4 s0 s h0 _ hf
theorem w_Land_survey_34 (b0 : Nat) (b1 : Nat) (x2 : Int) (x4 : Int) (s0 s : kM) (h0 : Fr (W_Land_survey b0 b1) s0 s) (t : kM) (hf : f_Land_survey_34 b0 b1 x2 x4 s = some t) : (fun r => Fr (W_Land_survey b0 b1) s0 r) t :=
  gL_fr (P := fun (x : Int × Int × kM) => Fr (W_Land_survey b0 b1) s0 x.2.2) (q := (fun r => Fr (W_Land_survey b0 b1) s0 r)) (fun x t hf h0 => w_Land_survey_34b b0 b1 x.1 x.2.1 s0 x.2.2 h0 t hf) gF (x2, x4, s) t hf h0
theorem w_Land_survey_28 (b0 : Nat) (b1 : Nat) (x2 : Int) (s0 s : kM) (h0 : Fr (W_Land_survey b0 b1) s0 s) (t : (Int × kM) ⊕ (kM)) (hf : f_Land_survey_28 b0 b1 x2 s = some t) : (gE (fun x => Fr (W_Land_survey b0 b1) s0 x.2) (fun r => Fr (W_Land_survey b0 b1) s0 r)) t := by
  unfold f_Land_survey_28 at hf
  cases hf
  exact h0
theorem w_Land_survey_17b (b0 : Nat) (b1 : Nat) (x2 : Int) (s0 s : kM) (h0 : Fr (W_Land_survey b0 b1) s0 s) (t : (Int × kM) ⊕ (kM)) (hf : f_Land_survey_17b b0 b1 x2 s = some t) : (gE (fun x => Fr (W_Land_survey b0 b1) s0 x.2) (fun r => Fr (W_Land_survey b0 b1) s0 r)) t := by
  unfold f_Land_survey_17b at hf
  by_cases c1 : 11 ≤ x2
  · have hf := gift c1 hf
    obtain ⟨t2, hg3, rfl⟩ := gmap hf
    exact w_Land_survey_34 b0 b1 0 0 s0 s h0 _ hg3
  · have hf := giff c1 hf
    obtain ⟨q4, hq4, hf⟩ := gbind hf
    by_cases c5 : q4 = 0
    · have hf := gift c5 hf
      exact w_Land_survey_28 b0 b1 x2 s0 s h0 _ hf
    · have hf := giff c5 hf
      obtain ⟨q6, hq6, hf⟩ := gbind hf
      have hF7 : Fr (W_Land_survey b0 b1) s0 q6 := Fr.c h0 (w_Land_lookRound b0 b1 x2 s _ hq6) (by intro a ha; simp only [W_Land_survey, W_Land_lookRound, List.mem_cons, List.not_mem_nil, or_false, not_or] at ha ⊢; omega)
      exact w_Land_survey_28 b0 b1 x2 s0 q6 hF7 _ hf
theorem w_Land_survey_17 (b0 : Nat) (b1 : Nat) (x2 : Int) (s0 s : kM) (h0 : Fr (W_Land_survey b0 b1) s0 s) (t : kM) (hf : f_Land_survey_17 b0 b1 x2 s = some t) : (fun r => Fr (W_Land_survey b0 b1) s0 r) t :=
  gL_fr (P := fun (x : Int × kM) => Fr (W_Land_survey b0 b1) s0 x.2) (q := (fun r => Fr (W_Land_survey b0 b1) s0 r)) (fun x t hf h0 => w_Land_survey_17b b0 b1 x.1 s0 x.2 h0 t hf) gF (x2, s) t hf h0
theorem w_Land_survey (b0 : Nat) (b1 : Nat) (s : kM) (t : kM) (hf : f_Land_survey b0 b1 s = some t) : Fr (W_Land_survey b0 b1) s t := by
  unfold f_Land_survey at hf
  have h0 : Fr (W_Land_survey b0 b1) s s := Fr.r
  obtain ⟨s1, ee2, hf⟩ := gbL hf
  have hF3 : Fr (W_Land_survey b0 b1) s s1 := by rw [ee2]; exact Fr.u h0 (by simp [W_Land_survey])
  obtain ⟨s4, ee5, hf⟩ := gbL hf
  have hF6 : Fr (W_Land_survey b0 b1) s s4 := by rw [ee5]; exact Fr.u hF3 (by simp [W_Land_survey])
  obtain ⟨s7, ee8, hf⟩ := gbL hf
  have hF9 : Fr (W_Land_survey b0 b1) s s7 := by rw [ee8]; exact Fr.u hF6 (by simp [W_Land_survey])
  obtain ⟨s10, ee11, hf⟩ := gbL hf
  have hF12 : Fr (W_Land_survey b0 b1) s s10 := by rw [ee11]; exact Fr.u hF9 (by simp [W_Land_survey])
  obtain ⟨s13, ee14, hf⟩ := gbL hf
  have hF15 : Fr (W_Land_survey b0 b1) s s13 := by rw [ee14]; exact Fr.u hF12 (by simp [W_Land_survey])
  exact w_Land_survey_17 b0 b1 0 s s13 hF15 _ hf
def W_TownText_read (b1 : Nat) (b2 : Nat) : List Nat := [b1, b1 + 1, b1 + 2, b1 + 3, b1 + 4, b1 + 5, b2, b2 + 1, b2 + 2, b2 + 3, 1]
theorem w_TownText_read_35 (b1 : Nat) (b2 : Nat) (s0 s : kM) (h0 : Fr (W_TownText_read b1 b2) s0 s) (t : kM) (hf : f_TownText_read_35 b1 b2 s = some t) : (fun r => Fr (W_TownText_read b1 b2) s0 r) t := by
  unfold f_TownText_read_35 at hf
  by_cases c1 : (s 1 3) = 0
  · have hf := gift c1 hf
    obtain ⟨q2, hq2, hf⟩ := gbind hf
    have hF3 : Fr (W_TownText_read b1 b2) s0 q2 := Fr.c h0 (w_Town_settle b1 s _ hq2) (by intro a ha; simp only [W_TownText_read, W_Town_settle, List.mem_cons, List.not_mem_nil, or_false, not_or] at ha ⊢; omega)
    obtain ⟨q4, hq4, hf⟩ := gbind hf
    by_cases c5 : (q2 b1 2) = (wI (2 * q4))
    · have hf := gift c5 hf
      obtain ⟨q6, hq6, hf⟩ := gbind hf
      have hF7 : Fr (W_TownText_read b1 b2) s0 q6 := Fr.c hF3 (w_Land_survey b2 b1 q2 _ hq6) (by intro a ha; simp only [W_TownText_read, W_Land_survey, List.mem_cons, List.not_mem_nil, or_false, not_or] at ha ⊢; omega)
      obtain ⟨q8, hq8, hf⟩ := gbind hf
      obtain ⟨q9, hq9, hf⟩ := gbind hf
      by_cases c10 : (q6 b2 0) = (wI (q8 + (wI (2 * q9))))
      · have hf := gift c10 hf
        cases hf
        exact hF7
      · have hf := giff c10 hf
        obtain ⟨q11, hq11, hf⟩ := gbind hf
        have hF12 : Fr (W_TownText_read b1 b2) s0 q11 := Fr.c hF7 (w_Tape_fail 7 q6 _ hq11) (by intro a ha; simp only [W_TownText_read, W_Tape_fail, List.mem_cons, List.not_mem_nil, or_false, not_or] at ha ⊢; omega)
        cases hf
        exact hF12
    · have hf := giff c5 hf
      obtain ⟨q13, hq13, hf⟩ := gbind hf
      have hF14 : Fr (W_TownText_read b1 b2) s0 q13 := Fr.c hF3 (w_Tape_fail 6 q2 _ hq13) (by intro a ha; simp only [W_TownText_read, W_Tape_fail, List.mem_cons, List.not_mem_nil, or_false, not_or] at ha ⊢; omega)
      cases hf
      exact hF14
  · have hf := giff c1 hf
    cases hf
    exact h0
theorem w_TownText_read_29 (b1 : Nat) (b2 : Nat) (s0 s : kM) (h0 : Fr (W_TownText_read b1 b2) s0 s) (t : kM) (hf : f_TownText_read_29 b1 b2 s = some t) : (fun r => Fr (W_TownText_read b1 b2) s0 r) t := by
  unfold f_TownText_read_29 at hf
  obtain ⟨q1, hq1, hf⟩ := gbind hf
  by_cases c2 : q1 = 0
  · have hf := gift c2 hf
    obtain ⟨q3, hq3, hf⟩ := gbind hf
    have hF4 : Fr (W_TownText_read b1 b2) s0 q3 := Fr.c h0 (w_Tape_fail 0 s _ hq3) (by intro a ha; simp only [W_TownText_read, W_Tape_fail, List.mem_cons, List.not_mem_nil, or_false, not_or] at ha ⊢; omega)
    exact w_TownText_read_35 b1 b2 s0 q3 hF4 _ hf
  · have hf := giff c2 hf
    exact w_TownText_read_35 b1 b2 s0 s h0 _ hf
theorem w_TownText_read_26 (b1 : Nat) (b2 : Nat) (x4 : Int) (y0 : Int) (s0 s : kM) (h0 : Fr (W_TownText_read b1 b2) s0 s) (t : (Int × Int × kM) ⊕ (kM)) (hf : f_TownText_read_26 b1 b2 x4 y0 s = some t) : (gE (fun x => Fr (W_TownText_read b1 b2) s0 x.2.2) (fun r => Fr (W_TownText_read b1 b2) s0 r)) t := by
  unfold f_TownText_read_26 at hf
  cases hf
  exact h0
theorem w_TownText_read_25 (b1 : Nat) (b2 : Nat) (x4 : Int) (s0 s : kM) (h0 : Fr (W_TownText_read b1 b2) s0 s) (t : (Int × Int × kM) ⊕ (kM)) (hf : f_TownText_read_25 b1 b2 x4 s = some t) : (gE (fun x => Fr (W_TownText_read b1 b2) s0 x.2.2) (fun r => Fr (W_TownText_read b1 b2) s0 r)) t := by
  unfold f_TownText_read_25 at hf
  exact w_TownText_read_26 b1 b2 x4 0 s0 s h0 _ hf
theorem w_TownText_read_8b (b1 : Nat) (b2 : Nat) (x3 : Int) (x4 : Int) (s0 s : kM) (h0 : Fr (W_TownText_read b1 b2) s0 s) (t : (Int × Int × kM) ⊕ (kM)) (hf : f_TownText_read_8b b1 b2 x3 x4 s = some t) : (gE (fun x => Fr (W_TownText_read b1 b2) s0 x.2.2) (fun r => Fr (W_TownText_read b1 b2) s0 r)) t := by
  unfold f_TownText_read_8b at hf
  by_cases c1 : 2 < x4
  · have hf := gift c1 hf
    obtain ⟨t2, hg3, rfl⟩ := gmap hf
    exact w_TownText_read_29 b1 b2 s0 s h0 _ hg3
  · have hf := giff c1 hf
    by_cases c4 : x3 = 0
    · have hf := gift c4 hf
      obtain ⟨t5, hg6, rfl⟩ := gmap hf
      exact w_TownText_read_29 b1 b2 s0 s h0 _ hg6
    · have hf := giff c4 hf
      obtain ⟨q7, hq7, hf⟩ := gbind hf
      have hF8 : Fr (W_TownText_read b1 b2) s0 q7 := Fr.c h0 (w_TownText_readRoad b1 s _ hq7) (by intro a ha; simp only [W_TownText_read, W_TownText_readRoad, List.mem_cons, List.not_mem_nil, or_false, not_or] at ha ⊢; omega)
      by_cases c9 : (q7 1 3) = 0
      · have hf := gift c9 hf
        obtain ⟨q10, hq10, hf⟩ := gbind hf
        have hF11 : Fr (W_TownText_read b1 b2) s0 q10.2 := Fr.c hF8 (w_Tape_takeSign 59 q7 _ hq10) (by intro a ha; simp only [W_TownText_read, W_Tape_takeSign, List.mem_cons, List.not_mem_nil, or_false, not_or] at ha ⊢; omega)
        by_cases c12 : q10.1 = 0
        · have hf := gift c12 hf
          exact w_TownText_read_25 b1 b2 x4 s0 q10.2 hF11 _ hf
        · have hf := giff c12 hf
          exact w_TownText_read_26 b1 b2 x4 1 s0 q10.2 hF11 _ hf
      · have hf := giff c9 hf
        exact w_TownText_read_25 b1 b2 x4 s0 q7 hF8 _ hf
theorem w_TownText_read_8 (b1 : Nat) (b2 : Nat) (x3 : Int) (x4 : Int) (s0 s : kM) (h0 : Fr (W_TownText_read b1 b2) s0 s) (t : kM) (hf : f_TownText_read_8 b1 b2 x3 x4 s = some t) : (fun r => Fr (W_TownText_read b1 b2) s0 r) t :=
  gL_fr (P := fun (x : Int × Int × kM) => Fr (W_TownText_read b1 b2) s0 x.2.2) (q := (fun r => Fr (W_TownText_read b1 b2) s0 r)) (fun x t hf h0 => w_TownText_read_8b b1 b2 x.1 x.2.1 s0 x.2.2 h0 t hf) gF (x3, x4, s) t hf h0
theorem w_TownText_read (b1 : Nat) (b2 : Nat) (s : kM) (t : kM) (hf : f_TownText_read b1 b2 s = some t) : Fr (W_TownText_read b1 b2) s t := by
  unfold f_TownText_read at hf
  have h0 : Fr (W_TownText_read b1 b2) s s := Fr.r
  obtain ⟨q1, hq1, hf⟩ := gbind hf
  have hF2 : Fr (W_TownText_read b1 b2) s q1 := Fr.c h0 (w_Town_clear b1 s _ hq1) (by intro a ha; simp only [W_TownText_read, W_Town_clear, List.mem_cons, List.not_mem_nil, or_false, not_or] at ha ⊢; omega)
  obtain ⟨q3, hq3, hf⟩ := gbind hf
  have hF4 : Fr (W_TownText_read b1 b2) s q3 := Fr.c hF2 (w_Tape_rewind q1 _ hq3) (by intro a ha; simp only [W_TownText_read, W_Tape_rewind, List.mem_cons, List.not_mem_nil, or_false, not_or] at ha ⊢; omega)
  exact w_TownText_read_8 b1 b2 1 0 s q3 hF4 _ hf
def W_Town_copyFrom (b0 : Nat) (b1 : Nat) : List Nat := [b0, b0 + 1, b0 + 2, b0 + 3, b0 + 4, b0 + 5]
theorem w_Town_copyFrom (b0 : Nat) (b1 : Nat) (s : kM) (t : kM) (hf : f_Town_copyFrom b0 b1 s = some t) : Fr (W_Town_copyFrom b0 b1) s t := by
  unfold f_Town_copyFrom at hf
  have h0 : Fr (W_Town_copyFrom b0 b1) s s := Fr.r
  obtain ⟨s1, ee2, hf⟩ := gbL hf
  have hF3 : Fr (W_Town_copyFrom b0 b1) s s1 := by rw [ee2]; exact Fr.u h0 (by simp [W_Town_copyFrom])
  obtain ⟨s4, ee5, hf⟩ := gbL hf
  have hF6 : Fr (W_Town_copyFrom b0 b1) s s4 := by rw [ee5]; exact Fr.u hF3 (by simp [W_Town_copyFrom])
  obtain ⟨s7, ee8, hf⟩ := gbL hf
  have hF9 : Fr (W_Town_copyFrom b0 b1) s s7 := by rw [ee8]; exact Fr.u hF6 (by simp [W_Town_copyFrom])
  obtain ⟨s10, ee11, hf⟩ := gbL hf
  have hF12 : Fr (W_Town_copyFrom b0 b1) s s10 := by rw [ee11]; exact Fr.a hF9 (by simp [W_Town_copyFrom])
  obtain ⟨s13, ee14, hf⟩ := gbL hf
  have hF15 : Fr (W_Town_copyFrom b0 b1) s s13 := by rw [ee14]; exact Fr.a hF12 (by simp [W_Town_copyFrom])
  obtain ⟨q16, hq16, hf⟩ := gbind hf
  have hF17 : Fr (W_Town_copyFrom b0 b1) s q16 := Fr.c hF15 (w_Town_settle b0 s13 _ hq16) (by intro a ha; simp only [W_Town_copyFrom, W_Town_settle, List.mem_cons, List.not_mem_nil, or_false, not_or] at ha ⊢; omega)
  cases hf
  exact hF17
def W_Search_forget : List Nat := [21]
theorem w_Search_forget (s : kM) (t : kM) (hf : f_Search_forget s = some t) : Fr (W_Search_forget) s t := by
  unfold f_Search_forget at hf
  have h0 : Fr (W_Search_forget) s s := Fr.r
  obtain ⟨s1, ee2, hf⟩ := gbL hf
  have hF3 : Fr (W_Search_forget) s s1 := by rw [ee2]; exact Fr.u h0 (by simp [W_Search_forget])
  obtain ⟨s4, ee5, hf⟩ := gbL hf
  have hF6 : Fr (W_Search_forget) s s4 := by rw [ee5]; exact Fr.u hF3 (by simp [W_Search_forget])
  cases hf
  exact hF6
def W_KT_forget : List Nat := [21, 44]
theorem w_KT_forget (s : kM) (t : kM) (hf : f_KT_forget s = some t) : Fr (W_KT_forget) s t := by
  unfold f_KT_forget at hf
  have h0 : Fr (W_KT_forget) s s := Fr.r
  obtain ⟨q1, hq1, hf⟩ := gbind hf
  have hF2 : Fr (W_KT_forget) s q1 := Fr.c h0 (w_Search_forget s _ hq1) (by intro a ha; simp only [W_KT_forget, W_Search_forget, List.mem_cons, List.not_mem_nil, or_false, not_or] at ha ⊢; omega)
  obtain ⟨s3, ee4, hf⟩ := gbL hf
  have hF5 : Fr (W_KT_forget) s s3 := by rw [ee4]; exact Fr.u hF2 (by simp [W_KT_forget])
  cases hf
  exact hF5
def W_KT_town : List Nat := [1, 3, 4, 5, 6, 7, 8, 9, 11, 12, 13, 14, 15, 16, 17, 18, 19, 20, 21, 44]
theorem w_KT_town (s : kM) (t : Int × kM) (hf : f_KT_town s = some t) : Fr (W_KT_town) s t.2 := by
  unfold f_KT_town at hf
  have h0 : Fr (W_KT_town) s s := Fr.r
  obtain ⟨q1, hq1, hf⟩ := gbind hf
  have hF2 : Fr (W_KT_town) s q1 := Fr.c h0 (w_TownText_read 11 17 s _ hq1) (by intro a ha; simp only [W_KT_town, W_TownText_read, List.mem_cons, List.not_mem_nil, or_false, not_or] at ha ⊢; omega)
  obtain ⟨s3, ee4, hf⟩ := gbL hf
  have hF5 : Fr (W_KT_town) s s3 := by rw [ee4]; exact Fr.u hF2 (by simp [W_KT_town])
  by_cases c6 : (s3 1 3) = 0
  · have hf := gift c6 hf
    obtain ⟨q7, hq7, hf⟩ := gbind hf
    have hF8 : Fr (W_KT_town) s q7 := Fr.c hF5 (w_Town_copyFrom 4 11 s3 _ hq7) (by intro a ha; simp only [W_KT_town, W_Town_copyFrom, List.mem_cons, List.not_mem_nil, or_false, not_or] at ha ⊢; omega)
    obtain ⟨s9, ee10, hf⟩ := gbL hf
    have hF11 : Fr (W_KT_town) s s9 := by rw [ee10]; exact Fr.u hF8 (by simp [W_KT_town])
    obtain ⟨q12, hq12, hf⟩ := gbind hf
    have hF13 : Fr (W_KT_town) s q12 := Fr.c hF11 (w_KT_forget s9 _ hq12) (by intro a ha; simp only [W_KT_town, W_KT_forget, List.mem_cons, List.not_mem_nil, or_false, not_or] at ha ⊢; omega)
    obtain ⟨q14, hq14, hf⟩ := gbind hf
    cases hf
    exact hF13
  · have hf := giff c6 hf
    cases hf
    exact hF5
def W_RuleText_emit : List Nat := [54, 55]
theorem w_RuleText_emit (x1 : Int) (s : kM) (t : kM) (hf : f_RuleText_emit x1 s = some t) : Fr (W_RuleText_emit) s t := by
  unfold f_RuleText_emit at hf
  have h0 : Fr (W_RuleText_emit) s s := Fr.r
  by_cases c1 : 400 ≤ (s 54 1)
  · have hf := gift c1 hf
    cases hf
    exact h0
  · have hf := giff c1 hf
    obtain ⟨j2, i3, hf⟩ := gbI hf
    obtain ⟨s4, ee5, hf⟩ := gbL hf
    have hF6 : Fr (W_RuleText_emit) s s4 := by rw [ee5]; exact Fr.u h0 (by simp [W_RuleText_emit])
    obtain ⟨s7, ee8, hf⟩ := gbL hf
    have hF9 : Fr (W_RuleText_emit) s s7 := by rw [ee8]; exact Fr.u hF6 (by simp [W_RuleText_emit])
    cases hf
    exact hF9

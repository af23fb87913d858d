/-! ===== pure: frames; loops that count up ===== -/
/-- what the reference's calls show rests on these cells alone -/
def kM (b j : Nat) : Bool := (1 ≤ b && b ≤ 9) || (41 ≤ b && b ≤ 43) || b == 45 || b == 46 || (b == 0 && (j == 1 || (10 ≤ j && j ≤ 16) || j == 65))
def frM (S S' : St) : Prop := ∀ b j, kM b j = true → gI S' b j = gI S b j
theorem frM_refl (S : St) : frM S S := fun _ _ _ => rfl
theorem frM_trans {S T U : St} (h : frM S T) (k : frM T U) : frM S U := fun b j e => (k b j e).trans (h b j e)
theorem frM_sI {S T : St} {a k : Nat} {v : Int32} (h : frM S T) (hk : kM a k = false) : frM S (sI T a k v) := fun b j e => by
  rw [gI_sI, if_neg (fun q => by rw [q.1, q.2, hk] at e; cases e)]; exact h b j e
theorem frM_row {S T : St} {a : Nat} {k : Nat} {v : Int32} (h : frM S T) (hk : 10 ≤ a ∧ a ≤ 40 ∨ a = 44 ∨ a = 47) : frM S (sI T a k v) := frM_sI h (by
  unfold kM
  rcases hk with ⟨h1, h2⟩ | rfl | rfl
  · simp; omega
  · simp
  · simp)
theorem frM_sJ {S T : St} {a k : Nat} {v : Int64} (h : frM S T) : frM S (sJ T a k v) := fun b j e => h b j e
/-- only cells of the list have changed -/
def frX (l : List Nat) (S S' : St) : Prop := ∀ b, b ∉ l → ∀ j, gI S' b j = gI S b j ∧ gJ S' b j = gJ S b j ∧ gR S' b j = gR S b j
theorem frX_refl (l : List Nat) (S : St) : frX l S S := fun _ _ _ => ⟨rfl, rfl, rfl⟩
theorem frX_trans {l : List Nat} {S T U : St} (h : frX l S T) (k : frX l T U) : frX l S U := fun b e j => ⟨(k b e j).1.trans (h b e j).1, (k b e j).2.1.trans (h b e j).2.1, (k b e j).2.2.trans (h b e j).2.2⟩
theorem frX_sub {l m : List Nat} {S T : St} (h : frX l S T) (hs : ∀ x, x ∈ l → x ∈ m) : frX m S T := fun b e j => h b (fun q => e (hs b q)) j
theorem frX_sI {l : List Nat} {S T : St} {a k : Nat} {v : Int32} (h : frX l S T) (ha : a ∈ l) : frX l S (sI T a k v) := fun b e j => by
  refine ⟨?_, (h b e j).2⟩
  rw [gI_sI, if_neg (fun q => e (by rw [q.1]; exact ha))]; exact (h b e j).1
theorem frX_sJ {l : List Nat} {S T : St} {a k : Nat} {v : Int64} (h : frX l S T) (ha : a ∈ l) : frX l S (sJ T a k v) := fun b e j => by
  refine ⟨(h b e j).1, ?_, (h b e j).2.2⟩
  rw [gJ_sJ, if_neg (fun q => e (by rw [q.1]; exact ha))]; exact (h b e j).2.1
theorem frX_row {l : List Nat} {S T : St} {a m : Nat} {g : Nat → Int32} (h : frX l S T) (ha : a ∈ l) : frX l S (setRow T a m g) := fun b e j => by
  refine ⟨?_, (h b e j).2⟩
  rw [gI_setRow, if_neg (fun q => e (by rw [q.1]; exact ha))]; exact (h b e j).1
theorem frX_cyc {l : List Nat} {S T : St} {o : Nat} {n u lo t : Int32} {p : Int64} {g : Nat → Int32} (h : frX l S T) (ha : o ∈ l) (hb : o + 1 ∈ l) : frX l S (cycS T o n u lo t p g) := fun b e j => by
  have n1 : b ≠ o := fun q => e (by rw [q]; exact ha)
  have n2 : b ≠ o + 1 := fun q => e (by rw [q]; exact hb)
  refine ⟨?_, ?_, (h b e j).2.2⟩
  · rw [cycS_go _ _ _ _ _ _ _ _ n1 n2]; exact (h b e j).1
  · rw [gJ_cycS, if_neg (fun q => n1 q.1)]; exact (h b e j).2.1
theorem frX_g {l : List Nat} {S T : St} (h : frX l S T) (b j : Nat) (hb : b ∉ l) : gI T b j = gI S b j := (h b hb j).1
theorem frX_gJ {l : List Nat} {S T : St} (h : frX l S T) (b j : Nat) (hb : b ∉ l) : gJ T b j = gJ S b j := (h b hb j).2.1
theorem frX_gR {l : List Nat} {S T : St} (h : frX l S T) (b j : Nat) (hb : b ∉ l) : gR T b j = gR S b j := (h b hb j).2.2
/-- a loop whose last value counts up to n -/
theorem up1 {B : (Int32 → St → Prop) → Int32 → St → Prop} (n : Nat) (hn : n < 2 ^ 31) (I : Nat → St → Prop)
    (hs : ∀ (k : Int32 → St → Prop) j S, j < n → I j S → (∀ S' x, x = nI j + 1 → I (j + 1) S' → k x S') → B k (nI j) S)
    (he : ∀ (k : Int32 → St → Prop) S, I n S → B k (nI n) S) (j0 : Nat) (hj : j0 ≤ n) {S : St} (h0 : I j0 S) : ∃ m, lpn (fun _ _ => False) B m (nI j0) S := by
  refine loop1 (fun v S => ∃ j, j ≤ n ∧ v = nI j ∧ I j S) (fun v _ => n - v.toNatClampNeg) ?_ _ ⟨j0, hj, rfl, h0⟩
  rintro k x0 S ⟨j, h1, rfl, h2⟩ hk
  by_cases e : j = n
  · subst e; exact he k S h2
  · refine hs k j S (by omega) h2 (fun S' x hx h3 => ?_)
    rw [show x = nI (j + 1) from hx.trans (nI_1 j)]
    refine hk _ _ ⟨j + 1, by omega, rfl, h3⟩ ?_
    show n - (nI (j + 1)).toNatClampNeg < n - (nI j).toNatClampNeg
    rw [nI_clamp (by omega), nI_clamp (by omega)]
    omega
theorem up2 {α : Type} {B : (α → Int32 → St → Prop) → α → Int32 → St → Prop} (n : Nat) (hn : n < 2 ^ 31) (I : Nat → α → St → Prop)
    (hs : ∀ (k : α → Int32 → St → Prop) j a S, j < n → I j a S → (∀ a' S' x, x = nI j + 1 → I (j + 1) a' S' → k a' x S') → B k a (nI j) S)
    (he : ∀ (k : α → Int32 → St → Prop) a S, I n a S → B k a (nI n) S) (j0 : Nat) (a : α) (hj : j0 ≤ n) {S : St} (h0 : I j0 a S) : ∃ m, lpn (fun _ _ _ => False) B m a (nI j0) S := by
  refine loop2 (fun a v S => ∃ j, j ≤ n ∧ v = nI j ∧ I j a S) (fun _ v _ => n - v.toNatClampNeg) ?_ _ _ ⟨j0, hj, rfl, h0⟩
  rintro k a x0 S ⟨j, h1, rfl, h2⟩ hk
  by_cases e : j = n
  · subst e; exact he k a S h2
  · refine hs k j a S (by omega) h2 (fun a' S' x hx h3 => ?_)
    rw [show x = nI (j + 1) from hx.trans (nI_1 j)]
    refine hk _ _ _ ⟨j + 1, by omega, rfl, h3⟩ ?_
    show n - (nI (j + 1)).toNatClampNeg < n - (nI j).toNatClampNeg
    rw [nI_clamp (by omega), nI_clamp (by omega)]
    omega
theorem up3 {α β : Type} {B : (α → β → Int32 → St → Prop) → α → β → Int32 → St → Prop} (n : Nat) (hn : n < 2 ^ 31) (I : Nat → α → β → St → Prop)
    (hs : ∀ (k : α → β → Int32 → St → Prop) j a b S, j < n → I j a b S → (∀ a' b' S' x, x = nI j + 1 → I (j + 1) a' b' S' → k a' b' x S') → B k a b (nI j) S)
    (he : ∀ (k : α → β → Int32 → St → Prop) a b S, I n a b S → B k a b (nI n) S) (j0 : Nat) (a : α) (b : β) (hj : j0 ≤ n) {S : St} (h0 : I j0 a b S) : ∃ m, lpn (fun _ _ _ _ => False) B m a b (nI j0) S := by
  refine loop3 (fun a b v S => ∃ j, j ≤ n ∧ v = nI j ∧ I j a b S) (fun _ _ v _ => n - v.toNatClampNeg) ?_ _ _ _ ⟨j0, hj, rfl, h0⟩
  rintro k a b x0 S ⟨j, h1, rfl, h2⟩ hk
  by_cases e : j = n
  · subst e; exact he k a b S h2
  · refine hs k j a b S (by omega) h2 (fun a' b' S' x hx h3 => ?_)
    rw [show x = nI (j + 1) from hx.trans (nI_1 j)]
    refine hk _ _ _ _ ⟨j + 1, by omega, rfl, h3⟩ ?_
    show n - (nI (j + 1)).toNatClampNeg < n - (nI j).toNatClampNeg
    rw [nI_clamp (by omega), nI_clamp (by omega)]
    omega
/-- loops of two and three values with a count that no value shows -/
theorem loopG2 {α0 α1 : Type} {B : (α0 → α1 → St → Prop) → α0 → α1 → St → Prop} (I : Nat → α0 → α1 → St → Prop)
    (h : ∀ (k : α0 → α1 → St → Prop) g x0 x1 S, I g x0 x1 S → (∀ g' y0 y1 S', I g' y0 y1 S' → g' < g → k y0 y1 S') → B k x0 x1 S) (g : Nat) (x0 : α0) (x1 : α1) {S : St} (h0 : I g x0 x1 S) : ∃ n, lpn (fun _ _ _ => False) B n x0 x1 S := by
  have key : ∀ n g x0 x1 S, I g x0 x1 S → g < n → lpn (fun _ _ _ => False) B n x0 x1 S := by
    intro n
    induction n with
    | zero => intro g x0 x1 S _ hlt; exact absurd hlt (Nat.not_lt_zero _)
    | succ n ih => intro g x0 x1 S hI hlt; exact h _ g x0 x1 S hI (fun g' y0 y1 S' h1 h2 => ih g' y0 y1 S' h1 (by omega))
  exact ⟨_, key (g + 1) g x0 x1 S h0 (Nat.lt_succ_self _)⟩
theorem loopG0 {B : (St → Prop) → St → Prop} (I : Nat → St → Prop)
    (h : ∀ (k : St → Prop) g S, I g S → (∀ g' S', I g' S' → g' < g → k S') → B k S) (g : Nat) {S : St} (h0 : I g S) : ∃ n, lpn (fun _ => False) B n S := by
  have key : ∀ n g S, I g S → g < n → lpn (fun _ => False) B n S := by
    intro n
    induction n with
    | zero => intro g S _ hlt; exact absurd hlt (Nat.not_lt_zero _)
    | succ n ih => intro g S hI hlt; exact h _ g S hI (fun g' S' h1 h2 => ih g' S' h1 (by omega))
  exact ⟨_, key (g + 1) g S h0 (Nat.lt_succ_self _)⟩
theorem loopG3 {α0 α1 α2 : Type} {B : (α0 → α1 → α2 → St → Prop) → α0 → α1 → α2 → St → Prop} (I : Nat → α0 → α1 → α2 → St → Prop)
    (h : ∀ (k : α0 → α1 → α2 → St → Prop) g x0 x1 x2 S, I g x0 x1 x2 S → (∀ g' y0 y1 y2 S', I g' y0 y1 y2 S' → g' < g → k y0 y1 y2 S') → B k x0 x1 x2 S) (g : Nat) (x0 : α0) (x1 : α1) (x2 : α2) {S : St} (h0 : I g x0 x1 x2 S) : ∃ n, lpn (fun _ _ _ _ => False) B n x0 x1 x2 S := by
  have key : ∀ n g x0 x1 x2 S, I g x0 x1 x2 S → g < n → lpn (fun _ _ _ _ => False) B n x0 x1 x2 S := by
    intro n
    induction n with
    | zero => intro g x0 x1 x2 S _ hlt; exact absurd hlt (Nat.not_lt_zero _)
    | succ n ih => intro g x0 x1 x2 S hI hlt; exact h _ g x0 x1 x2 S hI (fun g' y0 y1 y2 S' h1 h2 => ih g' y0 y1 y2 S' h1 (by omega))
  exact ⟨_, key (g + 1) g x0 x1 x2 S h0 (Nat.lt_succ_self _)⟩
theorem nI_if {x y : Nat} {A B : Prop} (hx : x < 2 ^ 31) (hy : y < 2 ^ 31) (h1 : x ≤ y → A) (h2 : y < x → B) : if nI x ≤ nI y then A else B := by
  by_cases e : x ≤ y
  · rw [if_pos (nI_le e hy)]; exact h1 e
  · rw [if_neg (nI_ge (by omega) hx)]; exact h2 (by omega)
theorem nI_ifLt {x y : Nat} {A B : Prop} (hx : x < 2 ^ 31) (hy : y < 2 ^ 31) (h1 : x < y → A) (h2 : y ≤ x → B) : if nI x < nI y then A else B := by
  by_cases e : x < y
  · rw [if_pos (nI_lt e hy)]; exact h1 e
  · rw [if_neg (nI_nlt (by omega) hx)]; exact h2 (by omega)
theorem nI_ifEq {x y : Nat} {A B : Prop} (hx : x < 2 ^ 31) (hy : y < 2 ^ 31) (h1 : x = y → A) (h2 : x ≠ y → B) : if nI x = nI y then A else B := by
  by_cases e : x = y
  · rw [if_pos (by rw [e])]; exact h1 e
  · rw [if_neg (fun q => e (nI_inj hx hy q))]; exact h2 e

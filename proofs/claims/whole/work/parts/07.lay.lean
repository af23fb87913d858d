/-! ===== my layer: a state is what the numbered cells hold; Go: the machine at a place, with a state ===== -/
abbrev St : Type := (Nat → Nat → Int32) × (Nat → Nat → Int64) × (Nat → Nat → Option Nat)
def gI (S : St) (a k : Nat) : Int32 := S.1 a k
def gJ (S : St) (a k : Nat) : Int64 := S.2.1 a k
def gR (S : St) (a k : Nat) : Option Nat := S.2.2 a k
def sI (S : St) (a k : Nat) (v : Int32) : St := (fun b j => if b = a ∧ j = k then v else S.1 b j, S.2)
def sJ (S : St) (a k : Nat) (v : Int64) : St := (S.1, fun b j => if b = a ∧ j = k then v else S.2.1 b j, S.2.2)
def sR (S : St) (a k : Nat) (v : Option Nat) : St := (S.1, S.2.1, fun b j => if b = a ∧ j = k then v else S.2.2 b j)
theorem gI_sI (S : St) (a k b j : Nat) (v : Int32) : gI (sI S a k v) b j = if b = a ∧ j = k then v else gI S b j := rfl
theorem gI_sJ (S : St) (a k b j : Nat) (v : Int64) : gI (sJ S a k v) b j = gI S b j := rfl
theorem gI_sR (S : St) (a k b j : Nat) (v : Option Nat) : gI (sR S a k v) b j = gI S b j := rfl
theorem gJ_sI (S : St) (a k b j : Nat) (v : Int32) : gJ (sI S a k v) b j = gJ S b j := rfl
theorem gJ_sJ (S : St) (a k b j : Nat) (v : Int64) : gJ (sJ S a k v) b j = if b = a ∧ j = k then v else gJ S b j := rfl
theorem gJ_sR (S : St) (a k b j : Nat) (v : Option Nat) : gJ (sR S a k v) b j = gJ S b j := rfl
theorem gR_sI (S : St) (a k b j : Nat) (v : Int32) : gR (sI S a k v) b j = gR S b j := rfl
theorem gR_sJ (S : St) (a k b j : Nat) (v : Int64) : gR (sJ S a k v) b j = gR S b j := rfl
theorem gR_sR (S : St) (a k b j : Nat) (v : Option Nat) : gR (sR S a k v) b j = if b = a ∧ j = k then v else gR S b j := rfl
theorem ite_t {c A B : Prop} [Decidable c] (h : if c then A else B) (hc : c) : A := by rwa [if_pos hc] at h
theorem ite_f {c A B : Prop} [Decidable c] (h : if c then A else B) (hc : ¬ c) : B := by rwa [if_neg hc] at h
/-- a loop's meaning: n rounds at most -/
def lpn {F : Sort _} (bot : F) (B : F → F) : Nat → F
  | 0 => bot
  | n + 1 => B (lpn bot B n)

theorem loop0 {B : (St → Prop) → St → Prop} (I : St → Prop) (μ : St → Nat)
    (h : ∀ (k : St → Prop) S, I S → (∀ S', I S' → μ S' < μ S → k S') → B k S) {S} (h0 : I S) : ∃ n, lpn (fun _ => False) B n S := by
  have key : ∀ n S, I S → μ S < n → lpn (fun _ => False) B n S := by
    intro n
    induction n with
    | zero => intro S _ hlt; exact absurd hlt (Nat.not_lt_zero _)
    | succ n ih => intro S hI hlt; exact h _ S hI (fun S' h1 h2 => ih S' h1 (by omega))
  exact ⟨_, key (μ S + 1) S h0 (Nat.lt_succ_self _)⟩
theorem loop1 {α0 : Type} {B : (α0 → St → Prop) → α0 → St → Prop} (I : α0 → St → Prop) (μ : α0 → St → Nat)
    (h : ∀ (k : α0 → St → Prop) x0 S, I x0 S → (∀ y0 S', I y0 S' → μ y0 S' < μ x0 S → k y0 S') → B k x0 S) x0 {S} (h0 : I x0 S) : ∃ n, lpn (fun _ _ => False) B n x0 S := by
  have key : ∀ n x0 S, I x0 S → μ x0 S < n → lpn (fun _ _ => False) B n x0 S := by
    intro n
    induction n with
    | zero => intro x0 S _ hlt; exact absurd hlt (Nat.not_lt_zero _)
    | succ n ih => intro x0 S hI hlt; exact h _ x0 S hI (fun y0 S' h1 h2 => ih y0 S' h1 (by omega))
  exact ⟨_, key (μ x0 S + 1) x0 S h0 (Nat.lt_succ_self _)⟩
theorem loop2 {α0 α1 : Type} {B : (α0 → α1 → St → Prop) → α0 → α1 → St → Prop} (I : α0 → α1 → St → Prop) (μ : α0 → α1 → St → Nat)
    (h : ∀ (k : α0 → α1 → St → Prop) x0 x1 S, I x0 x1 S → (∀ y0 y1 S', I y0 y1 S' → μ y0 y1 S' < μ x0 x1 S → k y0 y1 S') → B k x0 x1 S) x0 x1 {S} (h0 : I x0 x1 S) : ∃ n, lpn (fun _ _ _ => False) B n x0 x1 S := by
  have key : ∀ n x0 x1 S, I x0 x1 S → μ x0 x1 S < n → lpn (fun _ _ _ => False) B n x0 x1 S := by
    intro n
    induction n with
    | zero => intro x0 x1 S _ hlt; exact absurd hlt (Nat.not_lt_zero _)
    | succ n ih => intro x0 x1 S hI hlt; exact h _ x0 x1 S hI (fun y0 y1 S' h1 h2 => ih y0 y1 S' h1 (by omega))
  exact ⟨_, key (μ x0 x1 S + 1) x0 x1 S h0 (Nat.lt_succ_self _)⟩
theorem loop3 {α0 α1 α2 : Type} {B : (α0 → α1 → α2 → St → Prop) → α0 → α1 → α2 → St → Prop} (I : α0 → α1 → α2 → St → Prop) (μ : α0 → α1 → α2 → St → Nat)
    (h : ∀ (k : α0 → α1 → α2 → St → Prop) x0 x1 x2 S, I x0 x1 x2 S → (∀ y0 y1 y2 S', I y0 y1 y2 S' → μ y0 y1 y2 S' < μ x0 x1 x2 S → k y0 y1 y2 S') → B k x0 x1 x2 S) x0 x1 x2 {S} (h0 : I x0 x1 x2 S) : ∃ n, lpn (fun _ _ _ _ => False) B n x0 x1 x2 S := by
  have key : ∀ n x0 x1 x2 S, I x0 x1 x2 S → μ x0 x1 x2 S < n → lpn (fun _ _ _ _ => False) B n x0 x1 x2 S := by
    intro n
    induction n with
    | zero => intro x0 x1 x2 S _ hlt; exact absurd hlt (Nat.not_lt_zero _)
    | succ n ih => intro x0 x1 x2 S hI hlt; exact h _ x0 x1 x2 S hI (fun y0 y1 y2 S' h1 h2 => ih y0 y1 y2 S' h1 (by omega))
  exact ⟨_, key (μ x0 x1 x2 S + 1) x0 x1 x2 S h0 (Nat.lt_succ_self _)⟩
theorem loop4 {α0 α1 α2 α3 : Type} {B : (α0 → α1 → α2 → α3 → St → Prop) → α0 → α1 → α2 → α3 → St → Prop} (I : α0 → α1 → α2 → α3 → St → Prop) (μ : α0 → α1 → α2 → α3 → St → Nat)
    (h : ∀ (k : α0 → α1 → α2 → α3 → St → Prop) x0 x1 x2 x3 S, I x0 x1 x2 x3 S → (∀ y0 y1 y2 y3 S', I y0 y1 y2 y3 S' → μ y0 y1 y2 y3 S' < μ x0 x1 x2 x3 S → k y0 y1 y2 y3 S') → B k x0 x1 x2 x3 S) x0 x1 x2 x3 {S} (h0 : I x0 x1 x2 x3 S) : ∃ n, lpn (fun _ _ _ _ _ => False) B n x0 x1 x2 x3 S := by
  have key : ∀ n x0 x1 x2 x3 S, I x0 x1 x2 x3 S → μ x0 x1 x2 x3 S < n → lpn (fun _ _ _ _ _ => False) B n x0 x1 x2 x3 S := by
    intro n
    induction n with
    | zero => intro x0 x1 x2 x3 S _ hlt; exact absurd hlt (Nat.not_lt_zero _)
    | succ n ih => intro x0 x1 x2 x3 S hI hlt; exact h _ x0 x1 x2 x3 S hI (fun y0 y1 y2 y3 S' h1 h2 => ih y0 y1 y2 y3 S' h1 (by omega))
  exact ⟨_, key (μ x0 x1 x2 x3 S + 1) x0 x1 x2 x3 S h0 (Nat.lt_succ_self _)⟩
theorem loop5 {α0 α1 α2 α3 α4 : Type} {B : (α0 → α1 → α2 → α3 → α4 → St → Prop) → α0 → α1 → α2 → α3 → α4 → St → Prop} (I : α0 → α1 → α2 → α3 → α4 → St → Prop) (μ : α0 → α1 → α2 → α3 → α4 → St → Nat)
    (h : ∀ (k : α0 → α1 → α2 → α3 → α4 → St → Prop) x0 x1 x2 x3 x4 S, I x0 x1 x2 x3 x4 S → (∀ y0 y1 y2 y3 y4 S', I y0 y1 y2 y3 y4 S' → μ y0 y1 y2 y3 y4 S' < μ x0 x1 x2 x3 x4 S → k y0 y1 y2 y3 y4 S') → B k x0 x1 x2 x3 x4 S) x0 x1 x2 x3 x4 {S} (h0 : I x0 x1 x2 x3 x4 S) : ∃ n, lpn (fun _ _ _ _ _ _ => False) B n x0 x1 x2 x3 x4 S := by
  have key : ∀ n x0 x1 x2 x3 x4 S, I x0 x1 x2 x3 x4 S → μ x0 x1 x2 x3 x4 S < n → lpn (fun _ _ _ _ _ _ => False) B n x0 x1 x2 x3 x4 S := by
    intro n
    induction n with
    | zero => intro x0 x1 x2 x3 x4 S _ hlt; exact absurd hlt (Nat.not_lt_zero _)
    | succ n ih => intro x0 x1 x2 x3 x4 S hI hlt; exact h _ x0 x1 x2 x3 x4 S hI (fun y0 y1 y2 y3 y4 S' h1 h2 => ih y0 y1 y2 y3 y4 S' h1 (by omega))
  exact ⟨_, key (μ x0 x1 x2 x3 x4 S + 1) x0 x1 x2 x3 x4 S h0 (Nat.lt_succ_self _)⟩
theorem loop6 {α0 α1 α2 α3 α4 α5 : Type} {B : (α0 → α1 → α2 → α3 → α4 → α5 → St → Prop) → α0 → α1 → α2 → α3 → α4 → α5 → St → Prop} (I : α0 → α1 → α2 → α3 → α4 → α5 → St → Prop) (μ : α0 → α1 → α2 → α3 → α4 → α5 → St → Nat)
    (h : ∀ (k : α0 → α1 → α2 → α3 → α4 → α5 → St → Prop) x0 x1 x2 x3 x4 x5 S, I x0 x1 x2 x3 x4 x5 S → (∀ y0 y1 y2 y3 y4 y5 S', I y0 y1 y2 y3 y4 y5 S' → μ y0 y1 y2 y3 y4 y5 S' < μ x0 x1 x2 x3 x4 x5 S → k y0 y1 y2 y3 y4 y5 S') → B k x0 x1 x2 x3 x4 x5 S) x0 x1 x2 x3 x4 x5 {S} (h0 : I x0 x1 x2 x3 x4 x5 S) : ∃ n, lpn (fun _ _ _ _ _ _ _ => False) B n x0 x1 x2 x3 x4 x5 S := by
  have key : ∀ n x0 x1 x2 x3 x4 x5 S, I x0 x1 x2 x3 x4 x5 S → μ x0 x1 x2 x3 x4 x5 S < n → lpn (fun _ _ _ _ _ _ _ => False) B n x0 x1 x2 x3 x4 x5 S := by
    intro n
    induction n with
    | zero => intro x0 x1 x2 x3 x4 x5 S _ hlt; exact absurd hlt (Nat.not_lt_zero _)
    | succ n ih => intro x0 x1 x2 x3 x4 x5 S hI hlt; exact h _ x0 x1 x2 x3 x4 x5 S hI (fun y0 y1 y2 y3 y4 y5 S' h1 h2 => ih y0 y1 y2 y3 y4 y5 S' h1 (by omega))
  exact ⟨_, key (μ x0 x1 x2 x3 x4 x5 S + 1) x0 x1 x2 x3 x4 x5 S h0 (Nat.lt_succ_self _)⟩
theorem loop7 {α0 α1 α2 α3 α4 α5 α6 : Type} {B : (α0 → α1 → α2 → α3 → α4 → α5 → α6 → St → Prop) → α0 → α1 → α2 → α3 → α4 → α5 → α6 → St → Prop} (I : α0 → α1 → α2 → α3 → α4 → α5 → α6 → St → Prop) (μ : α0 → α1 → α2 → α3 → α4 → α5 → α6 → St → Nat)
    (h : ∀ (k : α0 → α1 → α2 → α3 → α4 → α5 → α6 → St → Prop) x0 x1 x2 x3 x4 x5 x6 S, I x0 x1 x2 x3 x4 x5 x6 S → (∀ y0 y1 y2 y3 y4 y5 y6 S', I y0 y1 y2 y3 y4 y5 y6 S' → μ y0 y1 y2 y3 y4 y5 y6 S' < μ x0 x1 x2 x3 x4 x5 x6 S → k y0 y1 y2 y3 y4 y5 y6 S') → B k x0 x1 x2 x3 x4 x5 x6 S) x0 x1 x2 x3 x4 x5 x6 {S} (h0 : I x0 x1 x2 x3 x4 x5 x6 S) : ∃ n, lpn (fun _ _ _ _ _ _ _ _ => False) B n x0 x1 x2 x3 x4 x5 x6 S := by
  have key : ∀ n x0 x1 x2 x3 x4 x5 x6 S, I x0 x1 x2 x3 x4 x5 x6 S → μ x0 x1 x2 x3 x4 x5 x6 S < n → lpn (fun _ _ _ _ _ _ _ _ => False) B n x0 x1 x2 x3 x4 x5 x6 S := by
    intro n
    induction n with
    | zero => intro x0 x1 x2 x3 x4 x5 x6 S _ hlt; exact absurd hlt (Nat.not_lt_zero _)
    | succ n ih => intro x0 x1 x2 x3 x4 x5 x6 S hI hlt; exact h _ x0 x1 x2 x3 x4 x5 x6 S hI (fun y0 y1 y2 y3 y4 y5 y6 S' h1 h2 => ih y0 y1 y2 y3 y4 y5 y6 S' h1 (by omega))
  exact ⟨_, key (μ x0 x1 x2 x3 x4 x5 x6 S + 1) x0 x1 x2 x3 x4 x5 x6 S h0 (Nat.lt_succ_self _)⟩
theorem loop8 {α0 α1 α2 α3 α4 α5 α6 α7 : Type} {B : (α0 → α1 → α2 → α3 → α4 → α5 → α6 → α7 → St → Prop) → α0 → α1 → α2 → α3 → α4 → α5 → α6 → α7 → St → Prop} (I : α0 → α1 → α2 → α3 → α4 → α5 → α6 → α7 → St → Prop) (μ : α0 → α1 → α2 → α3 → α4 → α5 → α6 → α7 → St → Nat)
    (h : ∀ (k : α0 → α1 → α2 → α3 → α4 → α5 → α6 → α7 → St → Prop) x0 x1 x2 x3 x4 x5 x6 x7 S, I x0 x1 x2 x3 x4 x5 x6 x7 S → (∀ y0 y1 y2 y3 y4 y5 y6 y7 S', I y0 y1 y2 y3 y4 y5 y6 y7 S' → μ y0 y1 y2 y3 y4 y5 y6 y7 S' < μ x0 x1 x2 x3 x4 x5 x6 x7 S → k y0 y1 y2 y3 y4 y5 y6 y7 S') → B k x0 x1 x2 x3 x4 x5 x6 x7 S) x0 x1 x2 x3 x4 x5 x6 x7 {S} (h0 : I x0 x1 x2 x3 x4 x5 x6 x7 S) : ∃ n, lpn (fun _ _ _ _ _ _ _ _ _ => False) B n x0 x1 x2 x3 x4 x5 x6 x7 S := by
  have key : ∀ n x0 x1 x2 x3 x4 x5 x6 x7 S, I x0 x1 x2 x3 x4 x5 x6 x7 S → μ x0 x1 x2 x3 x4 x5 x6 x7 S < n → lpn (fun _ _ _ _ _ _ _ _ _ => False) B n x0 x1 x2 x3 x4 x5 x6 x7 S := by
    intro n
    induction n with
    | zero => intro x0 x1 x2 x3 x4 x5 x6 x7 S _ hlt; exact absurd hlt (Nat.not_lt_zero _)
    | succ n ih => intro x0 x1 x2 x3 x4 x5 x6 x7 S hI hlt; exact h _ x0 x1 x2 x3 x4 x5 x6 x7 S hI (fun y0 y1 y2 y3 y4 y5 y6 y7 S' h1 h2 => ih y0 y1 y2 y3 y4 y5 y6 y7 S' h1 (by omega))
  exact ⟨_, key (μ x0 x1 x2 x3 x4 x5 x6 x7 S + 1) x0 x1 x2 x3 x4 x5 x6 x7 S h0 (Nat.lt_succ_self _)⟩
theorem loop9 {α0 α1 α2 α3 α4 α5 α6 α7 α8 : Type} {B : (α0 → α1 → α2 → α3 → α4 → α5 → α6 → α7 → α8 → St → Prop) → α0 → α1 → α2 → α3 → α4 → α5 → α6 → α7 → α8 → St → Prop} (I : α0 → α1 → α2 → α3 → α4 → α5 → α6 → α7 → α8 → St → Prop) (μ : α0 → α1 → α2 → α3 → α4 → α5 → α6 → α7 → α8 → St → Nat)
    (h : ∀ (k : α0 → α1 → α2 → α3 → α4 → α5 → α6 → α7 → α8 → St → Prop) x0 x1 x2 x3 x4 x5 x6 x7 x8 S, I x0 x1 x2 x3 x4 x5 x6 x7 x8 S → (∀ y0 y1 y2 y3 y4 y5 y6 y7 y8 S', I y0 y1 y2 y3 y4 y5 y6 y7 y8 S' → μ y0 y1 y2 y3 y4 y5 y6 y7 y8 S' < μ x0 x1 x2 x3 x4 x5 x6 x7 x8 S → k y0 y1 y2 y3 y4 y5 y6 y7 y8 S') → B k x0 x1 x2 x3 x4 x5 x6 x7 x8 S) x0 x1 x2 x3 x4 x5 x6 x7 x8 {S} (h0 : I x0 x1 x2 x3 x4 x5 x6 x7 x8 S) : ∃ n, lpn (fun _ _ _ _ _ _ _ _ _ _ => False) B n x0 x1 x2 x3 x4 x5 x6 x7 x8 S := by
  have key : ∀ n x0 x1 x2 x3 x4 x5 x6 x7 x8 S, I x0 x1 x2 x3 x4 x5 x6 x7 x8 S → μ x0 x1 x2 x3 x4 x5 x6 x7 x8 S < n → lpn (fun _ _ _ _ _ _ _ _ _ _ => False) B n x0 x1 x2 x3 x4 x5 x6 x7 x8 S := by
    intro n
    induction n with
    | zero => intro x0 x1 x2 x3 x4 x5 x6 x7 x8 S _ hlt; exact absurd hlt (Nat.not_lt_zero _)
    | succ n ih => intro x0 x1 x2 x3 x4 x5 x6 x7 x8 S hI hlt; exact h _ x0 x1 x2 x3 x4 x5 x6 x7 x8 S hI (fun y0 y1 y2 y3 y4 y5 y6 y7 y8 S' h1 h2 => ih y0 y1 y2 y3 y4 y5 y6 y7 y8 S' h1 (by omega))
  exact ⟨_, key (μ x0 x1 x2 x3 x4 x5 x6 x7 x8 S + 1) x0 x1 x2 x3 x4 x5 x6 x7 x8 S h0 (Nat.lt_succ_self _)⟩
/-- what kind each field is of: 0 int, 1 long, 2 a reference -/
def fkdL : List (List Nat) := [[2, 0, 2, 0], [2, 0, 0, 0, 0, 1], [2, 2, 2, 0], [2, 2, 2, 2, 2, 2, 2, 2, 0, 0, 0, 0, 0, 1, 0], [0, 0, 0, 0, 0, 0, 0, 2, 2, 2, 2, 2, 2, 2, 2], [2, 2, 0], [2, 2, 2, 2, 2, 2, 2, 2, 0, 0], [2, 2, 2, 2, 2, 2, 2, 0], [2, 2, 2, 2, 0, 0, 1, 0, 0], [2, 2, 2, 2, 2, 2, 2, 0], [2, 2, 2, 2, 2, 0, 0], [2, 2, 2, 2, 2, 2, 2, 2, 2, 2, 2], [0, 0, 2, 0, 0, 0, 0, 1, 0, 0, 0, 0, 0, 0, 0, 0, 0, 2, 2, 2, 2, 2, 2, 2, 2, 0, 0, 0, 0, 0, 0, 0, 2, 2, 2, 2, 2, 2, 2, 2, 2, 2, 2, 0, 2, 2, 2, 2, 2, 2, 2, 2, 2, 2, 2, 2, 2, 2, 2, 2, 2, 2, 2, 2, 0, 0, 2, 2, 2, 2, 0, 2, 2, 0, 2]]
def fkd (c : Nat) : List Nat := fkdL.getD c []
def nwL : List Cond := [.fieldLinkNest "EndsRound$Parser" 171 "EndsRound$Tape" "keys" "[I" "EndsRound",
  .fieldLinkNest "EndsRound$Parser" 174 "EndsRound$Tape" "starts" "[I" "EndsRound",
  .fieldLinkNest "EndsRound$Parser" 168 "EndsRound$Tape" "values" "[J" "EndsRound",
  .fieldLinkNest "EndsRound" 103 "EndsRound$Tape" "length" "I" "EndsRound",
  .fieldLinkNest "EndsRound$Parser" 165 "EndsRound$Tape" "tokens" "I" "EndsRound",
  .fieldLinkNest "EndsRound$Parser" 42 "EndsRound$Bars" "length" "I" "EndsRound",
  .fieldLinkNest "EndsRound$Stanzas" 39 "EndsRound$Form" "ends" "I" "EndsRound",
  .fieldLinkNest "EndsRound$Namer" 40 "EndsRound$Form" "ends" "I" "EndsRound",
  .fieldLinkNest "EndsRound$Filler" 52 "EndsRound$Form" "ends" "I" "EndsRound",
  .fieldLinkNest "EndsRound$Mender" 50 "EndsRound$Form" "ends" "I" "EndsRound",
  .fieldLinkNest "EndsRound$Parser" 104 "EndsRound$Form" "ends" "I" "EndsRound",
  .fieldLinkNest "EndsRound" 169 "EndsRound$Form" "ends" "I" "EndsRound",
  .fieldLinkNest "EndsRound$Parser" 101 "EndsRound$Form" "steps" "I" "EndsRound",
  .fieldLinkNest "EndsRound" 286 "EndsRound$Form" "steps" "I" "EndsRound",
  .fieldLinkNest "EndsRound$Parser" 111 "EndsRound$Form" "rhymeLines" "I" "EndsRound",
  .fieldLinkNest "EndsRound" 289 "EndsRound$Form" "rhymeLines" "I" "EndsRound",
  .fieldLinkNest "EndsRound" 292 "EndsRound$Form" "wholeLines" "I" "EndsRound",
  .fieldLinkNest "EndsRound$Parser" 133 "EndsRound$Form" "feet" "I" "EndsRound",
  .fieldLinkNest "EndsRound" 295 "EndsRound$Form" "feet" "I" "EndsRound",
  .fieldLinkNest "EndsRound$Bars" 26 "EndsRound$Form" "words" "I" "EndsRound",
  .fieldLinkNest "EndsRound$Mender" 76 "EndsRound$Form" "words" "I" "EndsRound",
  .fieldLinkNest "EndsRound$Filler" 92 "EndsRound$Form" "words" "I" "EndsRound",
  .fieldLinkNest "EndsRound$Parser" 136 "EndsRound$Form" "words" "I" "EndsRound",
  .fieldLinkNest "EndsRound" 298 "EndsRound$Form" "words" "I" "EndsRound",
  .fieldLinkNest "EndsRound$Parser" 145 "EndsRound$Form" "bars" "I" "EndsRound",
  .fieldLinkNest "EndsRound" 301 "EndsRound$Form" "bars" "I" "EndsRound",
  .fieldLinkNest "EndsRound$Stanzas" 46 "EndsRound$Form" "from" "[I" "EndsRound",
  .fieldLinkNest "EndsRound$Namer" 65 "EndsRound$Form" "from" "[I" "EndsRound",
  .fieldLinkNest "EndsRound" 132 "EndsRound$Form" "from" "[I" "EndsRound",
  .fieldLinkNest "EndsRound$Stanzas" 80 "EndsRound$Form" "rhymesWith" "[I" "EndsRound",
  .fieldLinkNest "EndsRound$Namer" 97 "EndsRound$Form" "rhymesWith" "[I" "EndsRound",
  .fieldLinkNest "EndsRound$Namer" 78 "EndsRound$Form" "every" "[I" "EndsRound",
  .fieldLinkNest "EndsRound$Parser" 118 "EndsRound$Form" "every" "[I" "EndsRound",
  .fieldLinkNest "EndsRound" 315 "EndsRound$Form" "every" "[I" "EndsRound",
  .fieldLinkNest "EndsRound$Mender" 100 "EndsRound$Form" "wordRhyme" "[I" "EndsRound",
  .fieldLinkNest "EndsRound" 201 "EndsRound$Form" "wordRhyme" "[I" "EndsRound",
  .fieldLinkNest "EndsRound$Bars" 64 "EndsRound$Form" "wordBeats" "[I" "EndsRound",
  .fieldLinkNest "EndsRound" 204 "EndsRound$Form" "wordBeats" "[I" "EndsRound",
  .fieldLinkNest "EndsRound$Bars" 61 "EndsRound$Form" "wordKind" "[I" "EndsRound",
  .fieldLinkNest "EndsRound" 207 "EndsRound$Form" "wordKind" "[I" "EndsRound",
  .fieldLinkNest "EndsRound$Bars" 35 "EndsRound$Form" "barredBehind" "[I" "EndsRound",
  .fieldLinkNest "EndsRound" 111 "EndsRound$Parser" "told" "LEndsRound$Form;" "EndsRound",
  .fieldLinkNest "EndsRound$Mender" 98 "EndsRound$Draft" "words" "[I" "EndsRound",
  .fieldLinkNest "EndsRound" 307 "EndsRound$Draft" "words" "[I" "EndsRound",
  .fieldLinkNest "EndsRound" 318 "EndsRound$Draft" "texts" "[I" "EndsRound",
  .fieldLinkNest "EndsRound" 321 "EndsRound$Draft" "beats" "[I" "EndsRound",
  .fieldLinkNest "EndsRound" 117 "EndsRound$Draft" "length" "I" "EndsRound",
  .fieldLinkNest "EndsRound$Mender" 83 "EndsRound$Draft" "length" "I" "EndsRound",
  .fieldLinkNest "EndsRound$Namer" 71 "EndsRound$Cycles" "lengths" "[I" "EndsRound",
  .fieldLinkNest "EndsRound" 138 "EndsRound$Cycles" "lengths" "[I" "EndsRound",
  .fieldLinkNest "EndsRound$Stanzas" 100 "EndsRound$Cycles" "lengths" "[I" "EndsRound",
  .fieldLinkNest "EndsRound" 160 "EndsRound$Cycles" "number" "I" "EndsRound",
  .fieldLinkNest "EndsRound" 163 "EndsRound$Cycles" "longest" "I" "EndsRound",
  .fieldLinkNest "EndsRound" 166 "EndsRound$Cycles" "staying" "I" "EndsRound",
  .fieldLinkNest "EndsRound$Stanzas" 66 "EndsRound$Cycles" "period" "J" "EndsRound",
  .fieldLinkNest "EndsRound" 156 "EndsRound$Cycles" "period" "J" "EndsRound",
  .fieldLinkNest "EndsRound" 135 "EndsRound$Stanzas" "cycles" "LEndsRound$Cycles;" "EndsRound",
  .fieldLinkNest "EndsRound" 125 "EndsRound$Stanzas" "to" "[I" "EndsRound",
  .fieldLinkNest "EndsRound$Mender" 103 "EndsRound$Stanzas" "classes" "[I" "EndsRound",
  .fieldLinkNest "EndsRound" 192 "EndsRound$Stanzas" "classes" "[I" "EndsRound",
  .fieldLinkNest "EndsRound" 224 "EndsRound$Filler" "first" "[I" "EndsRound",
  .fieldLinkNest "EndsRound" 254 "EndsRound$Mender" "given" "[I" "EndsRound",
  .fieldLinkNest "EndsRound" 275 "EndsRound$Namer" "names" "[I" "EndsRound",
  .fieldLinkNest "EndsRound" 265 "EndsRound$Mark" "form" "LEndsRound$Form;" "EndsRound",
  .fieldLinkNest "EndsRound" 278 "EndsRound$Mark" "draft" "LEndsRound$Draft;" "EndsRound",
  .fieldLinkNest "EndsRound" 261 "EndsRound$Mark" "laid" "Z" "EndsRound",
  .methodLinkNest "EndsRound$Parser" 11 ⟨"EndsRound$Bars", "<init>", "()V"⟩ "EndsRound",
  .methodLinkNest "EndsRound$Parser" 20 ⟨"EndsRound$Form", "<init>", "()V"⟩ "EndsRound",
  .methodLinkNest "EndsRound" 27 ⟨"EndsRound$Form", "<init>", "()V"⟩ "EndsRound",
  .methodLinkNest "EndsRound" 34 ⟨"EndsRound$Draft", "<init>", "()V"⟩ "EndsRound",
  .methodLinkNest "EndsRound" 41 ⟨"EndsRound$Stanzas", "<init>", "()V"⟩ "EndsRound",
  .methodLinkNest "EndsRound" 79 ⟨"EndsRound$Mark", "<init>", "()V"⟩ "EndsRound",
  .methodLinkNest "EndsRound$Mark" 9 ⟨"EndsRound$Form", "<init>", "()V"⟩ "EndsRound",
  .methodLinkNest "EndsRound$Mark" 18 ⟨"EndsRound$Draft", "<init>", "()V"⟩ "EndsRound",
  .methodLinkNest "EndsRound$Form" 58 ⟨"EndsRound", "put", "([III)V"⟩ "EndsRound",
  .methodLinkNest "EndsRound$Form" 62 ⟨"EndsRound", "blank", "([II)V"⟩ "EndsRound",
  .methodLinkNest "EndsRound$Stanzas" 47 ⟨"EndsRound", "copyRow", "([I[I)V"⟩ "EndsRound",
  .methodLinkNest "EndsRound$Stanzas" 51 ⟨"EndsRound", "cell", "([II)I"⟩ "EndsRound",
  .methodLinkNest "EndsRound$Stanzas" 55 ⟨"EndsRound", "put", "([III)V"⟩ "EndsRound",
  .methodLinkNest "EndsRound$Cycles" 30 ⟨"EndsRound", "blank", "([II)V"⟩ "EndsRound",
  .methodLinkNest "EndsRound$Cycles" 36 ⟨"EndsRound", "cell", "([II)I"⟩ "EndsRound",
  .methodLinkNest "EndsRound$Cycles" 43 ⟨"EndsRound", "put", "([III)V"⟩ "EndsRound",
  .methodLinkNest "EndsRound$Stanzas" 63 ⟨"EndsRound", "blank", "([II)V"⟩ "EndsRound",
  .methodLinkNest "EndsRound$Tape" 93 ⟨"EndsRound", "put", "([III)V"⟩ "EndsRound",
  .methodLinkNest "EndsRound$Parser" 126 ⟨"EndsRound", "cell", "([II)I"⟩ "EndsRound",
  .methodLinkNest "EndsRound$Form" 78 ⟨"EndsRound", "spiralSource", "(II)I"⟩ "EndsRound",
  .methodLinkNest "EndsRound$Form" 74 ⟨"EndsRound", "cell", "([II)I"⟩ "EndsRound",
  .methodLinkNest "EndsRound$Form" 66 ⟨"EndsRound", "copyRow", "([I[I)V"⟩ "EndsRound",
  .methodLinkNest "EndsRound$Bars" 22 ⟨"EndsRound", "put", "([III)V"⟩ "EndsRound",
  .methodLinkNest "EndsRound$Bars" 41 ⟨"EndsRound", "cell", "([II)I"⟩ "EndsRound",
  .methodLinkNest "EndsRound$Filler" 88 ⟨"EndsRound", "put", "([III)V"⟩ "EndsRound",
  .methodLinkNest "EndsRound$Filler" 114 ⟨"EndsRound", "cell", "([II)I"⟩ "EndsRound",
  .methodLinkNest "EndsRound$Filler" 72 ⟨"EndsRound", "copyRow", "([I[I)V"⟩ "EndsRound",
  .methodLinkNest "EndsRound$Draft" 25 ⟨"EndsRound", "put", "([III)V"⟩ "EndsRound",
  .methodLinkNest "EndsRound$Mender" 64 ⟨"EndsRound", "blank", "([II)V"⟩ "EndsRound",
  .methodLinkNest "EndsRound$Mender" 94 ⟨"EndsRound", "cell", "([II)I"⟩ "EndsRound",
  .methodLinkNest "EndsRound$Mender" 79 ⟨"EndsRound", "put", "([III)V"⟩ "EndsRound",
  .methodLinkNest "EndsRound$Namer" 74 ⟨"EndsRound", "cell", "([II)I"⟩ "EndsRound",
  .methodLinkNest "EndsRound$Namer" 81 ⟨"EndsRound", "put", "([III)V"⟩ "EndsRound",
  .methodLinkNest "EndsRound$Namer" 89 ⟨"EndsRound", "copyRow", "([I[I)V"⟩ "EndsRound",
  .methodLinkNest "EndsRound$Namer" 57 ⟨"EndsRound", "blank", "([II)V"⟩ "EndsRound",
  .methodLinkNest "EndsRound$Draft" 29 ⟨"EndsRound", "copyRow", "([I[I)V"⟩ "EndsRound"]
theorem nw_0 : Cond.fieldLinkNest "EndsRound$Parser" 171 "EndsRound$Tape" "keys" "[I" "EndsRound" ∈ nwL := List.mem_of_getElem? (i := 0) rfl
theorem nw_1 : Cond.fieldLinkNest "EndsRound$Parser" 174 "EndsRound$Tape" "starts" "[I" "EndsRound" ∈ nwL := List.mem_of_getElem? (i := 1) rfl
theorem nw_2 : Cond.fieldLinkNest "EndsRound$Parser" 168 "EndsRound$Tape" "values" "[J" "EndsRound" ∈ nwL := List.mem_of_getElem? (i := 2) rfl
theorem nw_3 : Cond.fieldLinkNest "EndsRound" 103 "EndsRound$Tape" "length" "I" "EndsRound" ∈ nwL := List.mem_of_getElem? (i := 3) rfl
theorem nw_4 : Cond.fieldLinkNest "EndsRound$Parser" 165 "EndsRound$Tape" "tokens" "I" "EndsRound" ∈ nwL := List.mem_of_getElem? (i := 4) rfl
theorem nw_5 : Cond.fieldLinkNest "EndsRound$Parser" 42 "EndsRound$Bars" "length" "I" "EndsRound" ∈ nwL := List.mem_of_getElem? (i := 5) rfl
theorem nw_6 : Cond.fieldLinkNest "EndsRound$Stanzas" 39 "EndsRound$Form" "ends" "I" "EndsRound" ∈ nwL := List.mem_of_getElem? (i := 6) rfl
theorem nw_7 : Cond.fieldLinkNest "EndsRound$Namer" 40 "EndsRound$Form" "ends" "I" "EndsRound" ∈ nwL := List.mem_of_getElem? (i := 7) rfl
theorem nw_8 : Cond.fieldLinkNest "EndsRound$Filler" 52 "EndsRound$Form" "ends" "I" "EndsRound" ∈ nwL := List.mem_of_getElem? (i := 8) rfl
theorem nw_9 : Cond.fieldLinkNest "EndsRound$Mender" 50 "EndsRound$Form" "ends" "I" "EndsRound" ∈ nwL := List.mem_of_getElem? (i := 9) rfl
theorem nw_10 : Cond.fieldLinkNest "EndsRound$Parser" 104 "EndsRound$Form" "ends" "I" "EndsRound" ∈ nwL := List.mem_of_getElem? (i := 10) rfl
theorem nw_11 : Cond.fieldLinkNest "EndsRound" 169 "EndsRound$Form" "ends" "I" "EndsRound" ∈ nwL := List.mem_of_getElem? (i := 11) rfl
theorem nw_12 : Cond.fieldLinkNest "EndsRound$Parser" 101 "EndsRound$Form" "steps" "I" "EndsRound" ∈ nwL := List.mem_of_getElem? (i := 12) rfl
theorem nw_13 : Cond.fieldLinkNest "EndsRound" 286 "EndsRound$Form" "steps" "I" "EndsRound" ∈ nwL := List.mem_of_getElem? (i := 13) rfl
theorem nw_14 : Cond.fieldLinkNest "EndsRound$Parser" 111 "EndsRound$Form" "rhymeLines" "I" "EndsRound" ∈ nwL := List.mem_of_getElem? (i := 14) rfl
theorem nw_15 : Cond.fieldLinkNest "EndsRound" 289 "EndsRound$Form" "rhymeLines" "I" "EndsRound" ∈ nwL := List.mem_of_getElem? (i := 15) rfl
theorem nw_16 : Cond.fieldLinkNest "EndsRound" 292 "EndsRound$Form" "wholeLines" "I" "EndsRound" ∈ nwL := List.mem_of_getElem? (i := 16) rfl
theorem nw_17 : Cond.fieldLinkNest "EndsRound$Parser" 133 "EndsRound$Form" "feet" "I" "EndsRound" ∈ nwL := List.mem_of_getElem? (i := 17) rfl
theorem nw_18 : Cond.fieldLinkNest "EndsRound" 295 "EndsRound$Form" "feet" "I" "EndsRound" ∈ nwL := List.mem_of_getElem? (i := 18) rfl
theorem nw_19 : Cond.fieldLinkNest "EndsRound$Bars" 26 "EndsRound$Form" "words" "I" "EndsRound" ∈ nwL := List.mem_of_getElem? (i := 19) rfl
theorem nw_20 : Cond.fieldLinkNest "EndsRound$Mender" 76 "EndsRound$Form" "words" "I" "EndsRound" ∈ nwL := List.mem_of_getElem? (i := 20) rfl
theorem nw_21 : Cond.fieldLinkNest "EndsRound$Filler" 92 "EndsRound$Form" "words" "I" "EndsRound" ∈ nwL := List.mem_of_getElem? (i := 21) rfl
theorem nw_22 : Cond.fieldLinkNest "EndsRound$Parser" 136 "EndsRound$Form" "words" "I" "EndsRound" ∈ nwL := List.mem_of_getElem? (i := 22) rfl
theorem nw_23 : Cond.fieldLinkNest "EndsRound" 298 "EndsRound$Form" "words" "I" "EndsRound" ∈ nwL := List.mem_of_getElem? (i := 23) rfl
theorem nw_24 : Cond.fieldLinkNest "EndsRound$Parser" 145 "EndsRound$Form" "bars" "I" "EndsRound" ∈ nwL := List.mem_of_getElem? (i := 24) rfl
theorem nw_25 : Cond.fieldLinkNest "EndsRound" 301 "EndsRound$Form" "bars" "I" "EndsRound" ∈ nwL := List.mem_of_getElem? (i := 25) rfl
theorem nw_26 : Cond.fieldLinkNest "EndsRound$Stanzas" 46 "EndsRound$Form" "from" "[I" "EndsRound" ∈ nwL := List.mem_of_getElem? (i := 26) rfl
theorem nw_27 : Cond.fieldLinkNest "EndsRound$Namer" 65 "EndsRound$Form" "from" "[I" "EndsRound" ∈ nwL := List.mem_of_getElem? (i := 27) rfl
theorem nw_28 : Cond.fieldLinkNest "EndsRound" 132 "EndsRound$Form" "from" "[I" "EndsRound" ∈ nwL := List.mem_of_getElem? (i := 28) rfl
theorem nw_29 : Cond.fieldLinkNest "EndsRound$Stanzas" 80 "EndsRound$Form" "rhymesWith" "[I" "EndsRound" ∈ nwL := List.mem_of_getElem? (i := 29) rfl
theorem nw_30 : Cond.fieldLinkNest "EndsRound$Namer" 97 "EndsRound$Form" "rhymesWith" "[I" "EndsRound" ∈ nwL := List.mem_of_getElem? (i := 30) rfl
theorem nw_31 : Cond.fieldLinkNest "EndsRound$Namer" 78 "EndsRound$Form" "every" "[I" "EndsRound" ∈ nwL := List.mem_of_getElem? (i := 31) rfl
theorem nw_32 : Cond.fieldLinkNest "EndsRound$Parser" 118 "EndsRound$Form" "every" "[I" "EndsRound" ∈ nwL := List.mem_of_getElem? (i := 32) rfl
theorem nw_33 : Cond.fieldLinkNest "EndsRound" 315 "EndsRound$Form" "every" "[I" "EndsRound" ∈ nwL := List.mem_of_getElem? (i := 33) rfl
theorem nw_34 : Cond.fieldLinkNest "EndsRound$Mender" 100 "EndsRound$Form" "wordRhyme" "[I" "EndsRound" ∈ nwL := List.mem_of_getElem? (i := 34) rfl
theorem nw_35 : Cond.fieldLinkNest "EndsRound" 201 "EndsRound$Form" "wordRhyme" "[I" "EndsRound" ∈ nwL := List.mem_of_getElem? (i := 35) rfl
theorem nw_36 : Cond.fieldLinkNest "EndsRound$Bars" 64 "EndsRound$Form" "wordBeats" "[I" "EndsRound" ∈ nwL := List.mem_of_getElem? (i := 36) rfl
theorem nw_37 : Cond.fieldLinkNest "EndsRound" 204 "EndsRound$Form" "wordBeats" "[I" "EndsRound" ∈ nwL := List.mem_of_getElem? (i := 37) rfl
theorem nw_38 : Cond.fieldLinkNest "EndsRound$Bars" 61 "EndsRound$Form" "wordKind" "[I" "EndsRound" ∈ nwL := List.mem_of_getElem? (i := 38) rfl
theorem nw_39 : Cond.fieldLinkNest "EndsRound" 207 "EndsRound$Form" "wordKind" "[I" "EndsRound" ∈ nwL := List.mem_of_getElem? (i := 39) rfl
theorem nw_40 : Cond.fieldLinkNest "EndsRound$Bars" 35 "EndsRound$Form" "barredBehind" "[I" "EndsRound" ∈ nwL := List.mem_of_getElem? (i := 40) rfl
theorem nw_41 : Cond.fieldLinkNest "EndsRound" 111 "EndsRound$Parser" "told" "LEndsRound$Form;" "EndsRound" ∈ nwL := List.mem_of_getElem? (i := 41) rfl
theorem nw_42 : Cond.fieldLinkNest "EndsRound$Mender" 98 "EndsRound$Draft" "words" "[I" "EndsRound" ∈ nwL := List.mem_of_getElem? (i := 42) rfl
theorem nw_43 : Cond.fieldLinkNest "EndsRound" 307 "EndsRound$Draft" "words" "[I" "EndsRound" ∈ nwL := List.mem_of_getElem? (i := 43) rfl
theorem nw_44 : Cond.fieldLinkNest "EndsRound" 318 "EndsRound$Draft" "texts" "[I" "EndsRound" ∈ nwL := List.mem_of_getElem? (i := 44) rfl
theorem nw_45 : Cond.fieldLinkNest "EndsRound" 321 "EndsRound$Draft" "beats" "[I" "EndsRound" ∈ nwL := List.mem_of_getElem? (i := 45) rfl
theorem nw_46 : Cond.fieldLinkNest "EndsRound" 117 "EndsRound$Draft" "length" "I" "EndsRound" ∈ nwL := List.mem_of_getElem? (i := 46) rfl
theorem nw_47 : Cond.fieldLinkNest "EndsRound$Mender" 83 "EndsRound$Draft" "length" "I" "EndsRound" ∈ nwL := List.mem_of_getElem? (i := 47) rfl
theorem nw_48 : Cond.fieldLinkNest "EndsRound$Namer" 71 "EndsRound$Cycles" "lengths" "[I" "EndsRound" ∈ nwL := List.mem_of_getElem? (i := 48) rfl
theorem nw_49 : Cond.fieldLinkNest "EndsRound" 138 "EndsRound$Cycles" "lengths" "[I" "EndsRound" ∈ nwL := List.mem_of_getElem? (i := 49) rfl
theorem nw_50 : Cond.fieldLinkNest "EndsRound$Stanzas" 100 "EndsRound$Cycles" "lengths" "[I" "EndsRound" ∈ nwL := List.mem_of_getElem? (i := 50) rfl
theorem nw_51 : Cond.fieldLinkNest "EndsRound" 160 "EndsRound$Cycles" "number" "I" "EndsRound" ∈ nwL := List.mem_of_getElem? (i := 51) rfl
theorem nw_52 : Cond.fieldLinkNest "EndsRound" 163 "EndsRound$Cycles" "longest" "I" "EndsRound" ∈ nwL := List.mem_of_getElem? (i := 52) rfl
theorem nw_53 : Cond.fieldLinkNest "EndsRound" 166 "EndsRound$Cycles" "staying" "I" "EndsRound" ∈ nwL := List.mem_of_getElem? (i := 53) rfl
theorem nw_54 : Cond.fieldLinkNest "EndsRound$Stanzas" 66 "EndsRound$Cycles" "period" "J" "EndsRound" ∈ nwL := List.mem_of_getElem? (i := 54) rfl
theorem nw_55 : Cond.fieldLinkNest "EndsRound" 156 "EndsRound$Cycles" "period" "J" "EndsRound" ∈ nwL := List.mem_of_getElem? (i := 55) rfl
theorem nw_56 : Cond.fieldLinkNest "EndsRound" 135 "EndsRound$Stanzas" "cycles" "LEndsRound$Cycles;" "EndsRound" ∈ nwL := List.mem_of_getElem? (i := 56) rfl
theorem nw_57 : Cond.fieldLinkNest "EndsRound" 125 "EndsRound$Stanzas" "to" "[I" "EndsRound" ∈ nwL := List.mem_of_getElem? (i := 57) rfl
theorem nw_58 : Cond.fieldLinkNest "EndsRound$Mender" 103 "EndsRound$Stanzas" "classes" "[I" "EndsRound" ∈ nwL := List.mem_of_getElem? (i := 58) rfl
theorem nw_59 : Cond.fieldLinkNest "EndsRound" 192 "EndsRound$Stanzas" "classes" "[I" "EndsRound" ∈ nwL := List.mem_of_getElem? (i := 59) rfl
theorem nw_60 : Cond.fieldLinkNest "EndsRound" 224 "EndsRound$Filler" "first" "[I" "EndsRound" ∈ nwL := List.mem_of_getElem? (i := 60) rfl
theorem nw_61 : Cond.fieldLinkNest "EndsRound" 254 "EndsRound$Mender" "given" "[I" "EndsRound" ∈ nwL := List.mem_of_getElem? (i := 61) rfl
theorem nw_62 : Cond.fieldLinkNest "EndsRound" 275 "EndsRound$Namer" "names" "[I" "EndsRound" ∈ nwL := List.mem_of_getElem? (i := 62) rfl
theorem nw_63 : Cond.fieldLinkNest "EndsRound" 265 "EndsRound$Mark" "form" "LEndsRound$Form;" "EndsRound" ∈ nwL := List.mem_of_getElem? (i := 63) rfl
theorem nw_64 : Cond.fieldLinkNest "EndsRound" 278 "EndsRound$Mark" "draft" "LEndsRound$Draft;" "EndsRound" ∈ nwL := List.mem_of_getElem? (i := 64) rfl
theorem nw_65 : Cond.fieldLinkNest "EndsRound" 261 "EndsRound$Mark" "laid" "Z" "EndsRound" ∈ nwL := List.mem_of_getElem? (i := 65) rfl
theorem nw_66 : Cond.methodLinkNest "EndsRound$Parser" 11 ⟨"EndsRound$Bars", "<init>", "()V"⟩ "EndsRound" ∈ nwL := List.mem_of_getElem? (i := 66) rfl
theorem nw_67 : Cond.methodLinkNest "EndsRound$Parser" 20 ⟨"EndsRound$Form", "<init>", "()V"⟩ "EndsRound" ∈ nwL := List.mem_of_getElem? (i := 67) rfl
theorem nw_68 : Cond.methodLinkNest "EndsRound" 27 ⟨"EndsRound$Form", "<init>", "()V"⟩ "EndsRound" ∈ nwL := List.mem_of_getElem? (i := 68) rfl
theorem nw_69 : Cond.methodLinkNest "EndsRound" 34 ⟨"EndsRound$Draft", "<init>", "()V"⟩ "EndsRound" ∈ nwL := List.mem_of_getElem? (i := 69) rfl
theorem nw_70 : Cond.methodLinkNest "EndsRound" 41 ⟨"EndsRound$Stanzas", "<init>", "()V"⟩ "EndsRound" ∈ nwL := List.mem_of_getElem? (i := 70) rfl
theorem nw_71 : Cond.methodLinkNest "EndsRound" 79 ⟨"EndsRound$Mark", "<init>", "()V"⟩ "EndsRound" ∈ nwL := List.mem_of_getElem? (i := 71) rfl
theorem nw_72 : Cond.methodLinkNest "EndsRound$Mark" 9 ⟨"EndsRound$Form", "<init>", "()V"⟩ "EndsRound" ∈ nwL := List.mem_of_getElem? (i := 72) rfl
theorem nw_73 : Cond.methodLinkNest "EndsRound$Mark" 18 ⟨"EndsRound$Draft", "<init>", "()V"⟩ "EndsRound" ∈ nwL := List.mem_of_getElem? (i := 73) rfl
theorem nw_74 : Cond.methodLinkNest "EndsRound$Form" 58 ⟨"EndsRound", "put", "([III)V"⟩ "EndsRound" ∈ nwL := List.mem_of_getElem? (i := 74) rfl
theorem nw_75 : Cond.methodLinkNest "EndsRound$Form" 62 ⟨"EndsRound", "blank", "([II)V"⟩ "EndsRound" ∈ nwL := List.mem_of_getElem? (i := 75) rfl
theorem nw_76 : Cond.methodLinkNest "EndsRound$Stanzas" 47 ⟨"EndsRound", "copyRow", "([I[I)V"⟩ "EndsRound" ∈ nwL := List.mem_of_getElem? (i := 76) rfl
theorem nw_77 : Cond.methodLinkNest "EndsRound$Stanzas" 51 ⟨"EndsRound", "cell", "([II)I"⟩ "EndsRound" ∈ nwL := List.mem_of_getElem? (i := 77) rfl
theorem nw_78 : Cond.methodLinkNest "EndsRound$Stanzas" 55 ⟨"EndsRound", "put", "([III)V"⟩ "EndsRound" ∈ nwL := List.mem_of_getElem? (i := 78) rfl
theorem nw_79 : Cond.methodLinkNest "EndsRound$Cycles" 30 ⟨"EndsRound", "blank", "([II)V"⟩ "EndsRound" ∈ nwL := List.mem_of_getElem? (i := 79) rfl
theorem nw_80 : Cond.methodLinkNest "EndsRound$Cycles" 36 ⟨"EndsRound", "cell", "([II)I"⟩ "EndsRound" ∈ nwL := List.mem_of_getElem? (i := 80) rfl
theorem nw_81 : Cond.methodLinkNest "EndsRound$Cycles" 43 ⟨"EndsRound", "put", "([III)V"⟩ "EndsRound" ∈ nwL := List.mem_of_getElem? (i := 81) rfl
theorem nw_82 : Cond.methodLinkNest "EndsRound$Stanzas" 63 ⟨"EndsRound", "blank", "([II)V"⟩ "EndsRound" ∈ nwL := List.mem_of_getElem? (i := 82) rfl
theorem nw_83 : Cond.methodLinkNest "EndsRound$Tape" 93 ⟨"EndsRound", "put", "([III)V"⟩ "EndsRound" ∈ nwL := List.mem_of_getElem? (i := 83) rfl
theorem nw_84 : Cond.methodLinkNest "EndsRound$Parser" 126 ⟨"EndsRound", "cell", "([II)I"⟩ "EndsRound" ∈ nwL := List.mem_of_getElem? (i := 84) rfl
theorem nw_85 : Cond.methodLinkNest "EndsRound$Form" 78 ⟨"EndsRound", "spiralSource", "(II)I"⟩ "EndsRound" ∈ nwL := List.mem_of_getElem? (i := 85) rfl
theorem nw_86 : Cond.methodLinkNest "EndsRound$Form" 74 ⟨"EndsRound", "cell", "([II)I"⟩ "EndsRound" ∈ nwL := List.mem_of_getElem? (i := 86) rfl
theorem nw_87 : Cond.methodLinkNest "EndsRound$Form" 66 ⟨"EndsRound", "copyRow", "([I[I)V"⟩ "EndsRound" ∈ nwL := List.mem_of_getElem? (i := 87) rfl
theorem nw_88 : Cond.methodLinkNest "EndsRound$Bars" 22 ⟨"EndsRound", "put", "([III)V"⟩ "EndsRound" ∈ nwL := List.mem_of_getElem? (i := 88) rfl
theorem nw_89 : Cond.methodLinkNest "EndsRound$Bars" 41 ⟨"EndsRound", "cell", "([II)I"⟩ "EndsRound" ∈ nwL := List.mem_of_getElem? (i := 89) rfl
theorem nw_90 : Cond.methodLinkNest "EndsRound$Filler" 88 ⟨"EndsRound", "put", "([III)V"⟩ "EndsRound" ∈ nwL := List.mem_of_getElem? (i := 90) rfl
theorem nw_91 : Cond.methodLinkNest "EndsRound$Filler" 114 ⟨"EndsRound", "cell", "([II)I"⟩ "EndsRound" ∈ nwL := List.mem_of_getElem? (i := 91) rfl
theorem nw_92 : Cond.methodLinkNest "EndsRound$Filler" 72 ⟨"EndsRound", "copyRow", "([I[I)V"⟩ "EndsRound" ∈ nwL := List.mem_of_getElem? (i := 92) rfl
theorem nw_93 : Cond.methodLinkNest "EndsRound$Draft" 25 ⟨"EndsRound", "put", "([III)V"⟩ "EndsRound" ∈ nwL := List.mem_of_getElem? (i := 93) rfl
theorem nw_94 : Cond.methodLinkNest "EndsRound$Mender" 64 ⟨"EndsRound", "blank", "([II)V"⟩ "EndsRound" ∈ nwL := List.mem_of_getElem? (i := 94) rfl
theorem nw_95 : Cond.methodLinkNest "EndsRound$Mender" 94 ⟨"EndsRound", "cell", "([II)I"⟩ "EndsRound" ∈ nwL := List.mem_of_getElem? (i := 95) rfl
theorem nw_96 : Cond.methodLinkNest "EndsRound$Mender" 79 ⟨"EndsRound", "put", "([III)V"⟩ "EndsRound" ∈ nwL := List.mem_of_getElem? (i := 96) rfl
theorem nw_97 : Cond.methodLinkNest "EndsRound$Namer" 74 ⟨"EndsRound", "cell", "([II)I"⟩ "EndsRound" ∈ nwL := List.mem_of_getElem? (i := 97) rfl
theorem nw_98 : Cond.methodLinkNest "EndsRound$Namer" 81 ⟨"EndsRound", "put", "([III)V"⟩ "EndsRound" ∈ nwL := List.mem_of_getElem? (i := 98) rfl
theorem nw_99 : Cond.methodLinkNest "EndsRound$Namer" 89 ⟨"EndsRound", "copyRow", "([I[I)V"⟩ "EndsRound" ∈ nwL := List.mem_of_getElem? (i := 99) rfl
theorem nw_100 : Cond.methodLinkNest "EndsRound$Namer" 57 ⟨"EndsRound", "blank", "([II)V"⟩ "EndsRound" ∈ nwL := List.mem_of_getElem? (i := 100) rfl
theorem nw_101 : Cond.methodLinkNest "EndsRound$Draft" 29 ⟨"EndsRound", "copyRow", "([I[I)V"⟩ "EndsRound" ∈ nwL := List.mem_of_getElem? (i := 101) rfl
def isNest : Cond → Bool
  | .fieldLinkNest .. => true
  | .methodLinkNest .. => true
  | _ => false
theorem nwL_nest : ∀ w ∈ nwL, isNest w = true := by decide +kernel
theorem nest_on {w : Cond} (h : isNest w = true) : w.onTables = true := by
  cases w <;> first | rfl | (exact absurd h Bool.false_ne_true)
theorem nest_warm {w : Cond} (h : isNest w = true) {s U : State} (hW : s.WarmedH U.vm) (hz : va_Nw w s) : va_Nw w U := by
  cases w <;> first | exact va_Nw.warmF hW hz | exact va_Nw.warmM hW hz | (exact absurd h Bool.false_ne_true)
def NW (U : State) : Prop := ∀ w ∈ nwL, va_Nw w U
theorem NW.warm {s U : State} (hW : s.WarmedH U.vm) (h : NW s) : NW U := fun w hw => nest_warm (nwL_nest w hw) hW (h w hw)
theorem NW.same {s U : State} (hW : s.vm = U.vm) (h : NW s) : NW U := fun w hw => (h w hw).same (nest_on (nwL_nest w hw)) hW
def fvl (ad : Nat → Nat) (S : St) (a k kd : Nat) : Value := if kd = 0 then .int (gI S a k) else if kd = 1 then .long (gJ S a k) else va_rf ((gR S a k).map ad)
def obj (ad : Nat → Nat) (S : St) (a : Nat) (kds : List Nat) : List Value := kds.mapIdx (fun k kd => fvl ad S a k kd)
def cellOf (cy : Nat → ClassId) (ad : Nat → Nat) (sh : Nat → Nat × Nat) (S : St) (i : Nat) : va_E :=
  if (sh i).1 = 13 then .inl (cy 0, (sh i).2, .inl (gI S i))
  else if (sh i).1 = 14 then .inl (cy 1, (sh i).2, .inl (gI S i))
  else if (sh i).1 = 15 then .inl (cy 2, (sh i).2, .inr (.inl (gJ S i)))
  else if (sh i).1 = 16 then .inl (cy 3, (sh i).2, .inl (gI S i))
  else if (sh i).1 = 17 then .inl (cy 4, (sh i).2, .inr (.inr (.inr (.inr (fun j => (gR S i j).map ad)))))
  else .inr ((sh i).1, obj ad S i (fkd (sh i).1))
def wl (cy : Nat → ClassId) (ad : Nat → Nat) (sh : Nat → Nat × Nat) (N : Nat) (S : St) : va_W := (List.range N).map (fun i => (ad i, cellOf cy ad sh S i))
def tysOf (cy : Nat → ClassId) : List (ClassId × FieldType) := [(cy 0, .char), (cy 1, .int), (cy 2, .long), (cy 3, .boolean), (cy 4, .object "EndsRound$Mark")]
theorem wl_get {X : va_W} {cy : Nat → ClassId} {ad : Nat → Nat} {sh : Nat → Nat × Nat} {N : Nat} {S : St} {i : Nat} (h : i < N) : (X ++ wl cy ad sh N S)[X.length + i]? = some (ad i, cellOf cy ad sh S i) := by
  rw [List.getElem?_append_right (Nat.le_add_right _ _), Nat.add_sub_cancel_left]
  simp [wl, h]
theorem wl_set {X : va_W} {cy : Nat → ClassId} {ad : Nat → Nat} {sh : Nat → Nat × Nat} {N : Nat} {S S' : St} {i : Nat} {e : va_E} (he : cellOf cy ad sh S' i = e) (ho : ∀ j, j ≠ i → cellOf cy ad sh S' j = cellOf cy ad sh S j) :
    (X ++ wl cy ad sh N S).set (X.length + i) (ad i, e) = X ++ wl cy ad sh N S' := by
  rw [List.set_append_right _ _ (Nat.le_add_right _ _), Nat.add_sub_cancel_left]
  congr 1
  apply List.ext_getElem?
  intro n
  simp only [wl, List.getElem?_set, List.getElem?_map, List.length_map, List.length_range]
  by_cases hn : i = n
  · subst hn
    by_cases hN : i < N
    · simp [hN, he]
    · simp [hN]
  · simp only [hn, if_false]
    cases hr : (List.range N)[n]? with
    | none => rfl
    | some j =>
      have hj : j = n := by
        obtain ⟨h1, h2⟩ := List.getElem?_eq_some_iff.mp hr
        simpa using h2.symm
      subst hj
      simp only [Option.map_some]
      rw [ho j (fun h => hn h.symm)]
theorem gI_sI_ne {S : St} {i k j : Nat} {v : Int32} (h : j ≠ i) : gI (sI S i k v) j = gI S j := by funext b; simp [gI, sI, h]
theorem gJ_sJ_ne {S : St} {i k j : Nat} {v : Int64} (h : j ≠ i) : gJ (sJ S i k v) j = gJ S j := by funext b; simp [gJ, sJ, h]
theorem gR_sR_ne {S : St} {i k j : Nat} {v : Option Nat} (h : j ≠ i) : gR (sR S i k v) j = gR S j := by funext b; simp [gR, sR, h]
theorem cell_sI {cy : Nat → ClassId} {ad : Nat → Nat} {sh : Nat → Nat × Nat} {S : St} {i k j : Nat} {v : Int32} (h : j ≠ i) : cellOf cy ad sh (sI S i k v) j = cellOf cy ad sh S j := by
  have e2 : gJ (sI S i k v) = gJ S := rfl
  have e3 : gR (sI S i k v) = gR S := rfl
  simp only [cellOf, obj, fvl, gI_sI_ne h, e2, e3]
theorem cell_sJ {cy : Nat → ClassId} {ad : Nat → Nat} {sh : Nat → Nat × Nat} {S : St} {i k j : Nat} {v : Int64} (h : j ≠ i) : cellOf cy ad sh (sJ S i k v) j = cellOf cy ad sh S j := by
  have e2 : gI (sJ S i k v) = gI S := rfl
  have e3 : gR (sJ S i k v) = gR S := rfl
  simp only [cellOf, obj, fvl, gJ_sJ_ne h, e2, e3]
theorem cell_sR {cy : Nat → ClassId} {ad : Nat → Nat} {sh : Nat → Nat × Nat} {S : St} {i k j : Nat} {v : Option Nat} (h : j ≠ i) : cellOf cy ad sh (sR S i k v) j = cellOf cy ad sh S j := by
  have e2 : gI (sR S i k v) = gI S := rfl
  have e3 : gJ (sR S i k v) = gJ S := rfl
  simp only [cellOf, obj, fvl, gR_sR_ne h, e2, e3]
theorem obj_get {ad : Nat → Nat} {S : St} {a : Nat} {kds : List Nat} {k kd : Nat} (h : kds[k]? = some kd) : (obj ad S a kds)[k]? = some (fvl ad S a k kd) := by
  simp [obj, List.getElem?_mapIdx, h]
theorem obj_setg {ad : Nat → Nat} {S S' : St} {a : Nat} {kds : List Nat} {k kd : Nat} {w : Value} (h : kds[k]? = some kd) (hw : fvl ad S' a k kd = w) (ho : ∀ j d, j ≠ k → fvl ad S' a j d = fvl ad S a j d) : (obj ad S a kds).set k w = obj ad S' a kds := by
  apply List.ext_getElem?
  intro n
  simp only [obj, List.getElem?_set, List.getElem?_mapIdx, List.length_mapIdx]
  have hk : k < kds.length := (List.getElem?_eq_some_iff.mp h).1
  by_cases hn : k = n
  · subst hn
    rw [if_pos rfl, if_pos hk, h]
    simp [hw]
  · simp only [hn, if_false]
    cases hr : kds[n]? with
    | none => rfl
    | some d => simp only [Option.map_some]; rw [ho n d (fun e => hn e.symm)]
theorem obj_sI {ad : Nat → Nat} {S : St} {a : Nat} {kds : List Nat} {k : Nat} {v : Int32} (h : kds[k]? = some 0) : (obj ad S a kds).set k (.int v) = obj ad (sI S a k v) a kds :=
  obj_setg h (by simp [fvl, gI, sI]) (fun j d hj => by simp [fvl, gI, sI, gJ, gR, hj])
theorem obj_sJ {ad : Nat → Nat} {S : St} {a : Nat} {kds : List Nat} {k : Nat} {v : Int64} (h : kds[k]? = some 1) : (obj ad S a kds).set k (.long v) = obj ad (sJ S a k v) a kds :=
  obj_setg h (by simp [fvl, gJ, sJ]) (fun j d hj => by simp [fvl, gI, sJ, gJ, gR, hj])
theorem obj_sR {ad : Nat → Nat} {S : St} {a : Nat} {kds : List Nat} {k : Nat} {v : Option Nat} (h : kds[k]? = some 2) : (obj ad S a kds).set k (va_rf (v.map ad)) = obj ad (sR S a k v) a kds :=
  obj_setg h (by simp [fvl, gR, sR]) (fun j d hj => by simp [fvl, gI, sR, gJ, gR, hj])
def ok (sh : Nat → Nat × Nat) (N a kd n : Nat) : Prop := a < N ∧ sh a = (kd, n)
theorem cell_obj {cy : Nat → ClassId} {ad : Nat → Nat} {sh : Nat → Nat × Nat} {N : Nat} {S : St} {i ci n : Nat} (h : ok sh N i ci n) (hc : ci < 13) : cellOf cy ad sh S i = .inr (ci, obj ad S i (fkd ci)) := by
  have e1 : ¬ ci = 13 := by omega
  have e2 : ¬ ci = 14 := by omega
  have e3 : ¬ ci = 15 := by omega
  have e4 : ¬ ci = 16 := by omega
  have e5 : ¬ ci = 17 := by omega
  simp only [cellOf, h.2, e1, e2, e3, e4, e5, if_false]
theorem cell_c {cy : Nat → ClassId} {ad : Nat → Nat} {sh : Nat → Nat × Nat} {N : Nat} {S : St} {i n : Nat} (h : ok sh N i 13 n) : cellOf cy ad sh S i = .inl (cy 0, n, .inl (gI S i)) := by simp [cellOf, h.2]
theorem cell_i {cy : Nat → ClassId} {ad : Nat → Nat} {sh : Nat → Nat × Nat} {N : Nat} {S : St} {i n : Nat} (h : ok sh N i 14 n) : cellOf cy ad sh S i = .inl (cy 1, n, .inl (gI S i)) := by simp [cellOf, h.2]
theorem cell_j {cy : Nat → ClassId} {ad : Nat → Nat} {sh : Nat → Nat × Nat} {N : Nat} {S : St} {i n : Nat} (h : ok sh N i 15 n) : cellOf cy ad sh S i = .inl (cy 2, n, .inr (.inl (gJ S i))) := by simp [cellOf, h.2]
theorem cell_z {cy : Nat → ClassId} {ad : Nat → Nat} {sh : Nat → Nat × Nat} {N : Nat} {S : St} {i n : Nat} (h : ok sh N i 16 n) : cellOf cy ad sh S i = .inl (cy 3, n, .inl (gI S i)) := by simp [cellOf, h.2]
theorem cell_m {cy : Nat → ClassId} {ad : Nat → Nat} {sh : Nat → Nat × Nat} {N : Nat} {S : St} {i n : Nat} (h : ok sh N i 17 n) : cellOf cy ad sh S i = .inl (cy 4, n, .inr (.inr (.inr (.inr (fun j => (gR S i j).map ad))))) := by simp [cellOf, h.2]
/-- a class as the tables have it: its number, name, fields -/
def CI (ci : Nat) (CN : String) (T : u_T) (NN : Nat) (ty : Nat → FieldType) : Prop := vwCl[ci]? = some (CN, T, NN) ∧ ci < 13 ∧ (fkd ci).length = NN ∧ (∀ k, k < NN → parseFieldDescriptor (T k).2.2.1 = some (ty k)) ∧ (∀ a, a < NN → ∀ b, b < NN → a ≠ b → (T a).2.1 ≠ (T b).2.1)
theorem ci0 : CI 0 RX0 TX0 4 tyX0 := ⟨rfl, by decide, rfl, tyX0_ok, nmX0⟩
theorem ci1 : CI 1 RX1 TX1 6 tyX1 := ⟨rfl, by decide, rfl, tyX1_ok, nmX1⟩
theorem ci2 : CI 2 RX2 TX2 4 tyX2 := ⟨rfl, by decide, rfl, tyX2_ok, nmX2⟩
theorem ci3 : CI 3 RX3 TX3 15 tyX3 := ⟨rfl, by decide, rfl, tyX3_ok, nmX3⟩
theorem ci4 : CI 4 RX4 TX4 15 tyX4 := ⟨rfl, by decide, rfl, tyX4_ok, nmX4⟩
theorem ci5 : CI 5 RX5 TX5 3 tyX5 := ⟨rfl, by decide, rfl, tyX5_ok, nmX5⟩
theorem ci6 : CI 6 RX6 TX6 10 tyX6 := ⟨rfl, by decide, rfl, tyX6_ok, nmX6⟩
theorem ci7 : CI 7 RX7 TX7 8 tyX7 := ⟨rfl, by decide, rfl, tyX7_ok, nmX7⟩
theorem ci8 : CI 8 RX8 TX8 9 tyX8 := ⟨rfl, by decide, rfl, tyX8_ok, nmX8⟩
theorem ci9 : CI 9 RX9 TX9 8 tyX9 := ⟨rfl, by decide, rfl, tyX9_ok, nmX9⟩
theorem ci10 : CI 10 RX10 TX10 7 tyX10 := ⟨rfl, by decide, rfl, tyX10_ok, nmX10⟩
theorem ci11 : CI 11 RX11 TX11 11 tyX11 := ⟨rfl, by decide, rfl, tyX11_ok, nmX11⟩
theorem ci12 : CI 12 RX12 TX12 75 tyX12 := ⟨rfl, by decide, rfl, tyX12_ok, nmX12⟩
/-- all that stays during a call: program, launch, environment, room, start, method, arguments, callers, code, goal; the world's tables, addresses, other cells, where it may write -/
abbrev GC : Type := Program × Launch × Env × Room × State × MethodId × Array Value × List Frame × Method × Code × (State → Prop) × va_G × (Nat → ClassId) × (Nat → Nat) × va_W × (Nat → Prop) × (Nat → Nat × Nat) × Nat × Nat × Nat
abbrev Gp (G : GC) := G.1
abbrev Gl (G : GC) := G.2.1
abbrev Ge (G : GC) := G.2.2.1
abbrev GRm (G : GC) := G.2.2.2.1
abbrev Gs (G : GC) := G.2.2.2.2.1
abbrev Gm (G : GC) := G.2.2.2.2.2.1
abbrev Ga (G : GC) := G.2.2.2.2.2.2.1
abbrev Gb (G : GC) := G.2.2.2.2.2.2.2.1
abbrev Gme (G : GC) := G.2.2.2.2.2.2.2.2.1
abbrev Gc (G : GC) := G.2.2.2.2.2.2.2.2.2.1
abbrev GQ (G : GC) := G.2.2.2.2.2.2.2.2.2.2.1
abbrev GD (G : GC) := G.2.2.2.2.2.2.2.2.2.2.2.1
abbrev Gcy (G : GC) := G.2.2.2.2.2.2.2.2.2.2.2.2.1
abbrev Gad (G : GC) := G.2.2.2.2.2.2.2.2.2.2.2.2.2.1
abbrev GX (G : GC) := G.2.2.2.2.2.2.2.2.2.2.2.2.2.2.1
abbrev GA (G : GC) := G.2.2.2.2.2.2.2.2.2.2.2.2.2.2.2.1
abbrev Gsh (G : GC) := G.2.2.2.2.2.2.2.2.2.2.2.2.2.2.2.2.1
abbrev GN (G : GC) := G.2.2.2.2.2.2.2.2.2.2.2.2.2.2.2.2.2.1
abbrev Gk (G : GC) := G.2.2.2.2.2.2.2.2.2.2.2.2.2.2.2.2.2.2.1
abbrev Gw (G : GC) := G.2.2.2.2.2.2.2.2.2.2.2.2.2.2.2.2.2.2.2
abbrev Wd (G : GC) (S : St) : va_W := GX G ++ wl (Gcy G) (Gad G) (Gsh G) (GN G) S
def Go (G : GC) (nL pc : Nat) (st : List Value) (lv : List (Nat × Value)) (S : St) : Prop :=
  ∀ (H : Heap) (locs : List Loc) (ls : Array Slot), va_P (GD G) vwCl (Wd G S) H → va_D (GA G) (Wd G S) → va_S (GA G) (Gs G).heap H locs → lv_has ls nL lv →
    W (Gp G) (Gl G) (Ge G) (GRm G) (Gs G) (Gm G) (Ga G) (Gb G) (Gme G) (Gc G) H locs (Gk G) (Gw G) (GQ G) (F0 (Gm G) pc ls st)
def Cx (G : GC) (cc : ByteArray) (ws : List Cond) (own : String) (nL : Nat) (ret : Option FieldType) (rm : Room) (sh : Nat → Nat × Nat) (N : Nat) : Prop :=
  (Gp G).tables.exec = Jvm.exec ∧ (Gc G).code = cc ∧ (Gc G).maxLocals = nL ∧ (Gs G).vm.findClass own = some (Gm G).cls ∧ (∀ w ∈ ws, w.before (Ga G) (Gs G) = true) ∧
  (Gme G).locks = false ∧ (Gme G).sig.returnType = ret ∧ va_K (GD G) vwCl (tysOf (Gcy G)) (Gs G) ∧ (∀ q, (Gs G).heap.size ≤ q → GA G q) ∧ NW (Gs G) ∧ GRm G = rm ∧ Gsh G = sh ∧ GN G = N ∧ Gk G ≤ rm.cells ∧ Gw G ≤ rm.slots
theorem va_D_wl {A : Nat → Prop} {X : va_W} {cy : Nat → ClassId} {ad : Nat → Nat} {sh : Nat → Nat × Nat} {N : Nat} {S S' : St} (h : va_D A (X ++ wl cy ad sh N S)) : va_D A (X ++ wl cy ad sh N S') := by
  have key : ∀ (k : Nat) (q : Nat × va_E), (X ++ wl cy ad sh N S')[k]? = some q → ∃ e, (X ++ wl cy ad sh N S)[k]? = some (q.1, e) := by
    intro k q hk
    rcases Nat.lt_or_ge k X.length with hl | hl
    · rw [List.getElem?_append_left hl] at hk ⊢
      exact ⟨q.2, hk⟩
    · rw [List.getElem?_append_right hl] at hk ⊢
      simp only [wl, List.getElem?_map] at hk ⊢
      cases hr : (List.range N)[k - X.length]? with
      | none => rw [hr] at hk; cases hk
      | some j =>
        rw [hr] at hk
        simp only [Option.map_some, Option.some.injEq] at hk ⊢
        subst hk
        exact ⟨_, rfl⟩
  refine ⟨fun i j p q hi hj e => ?_, fun k q hk => ?_⟩
  · obtain ⟨e1, h1⟩ := key i p hi
    obtain ⟨e2, h2⟩ := key j q hj
    exact h.1 i j _ _ h1 h2 e
  · obtain ⟨e1, h1⟩ := key k q hk
    exact h.2 k (q.1, e1) h1
section GoRows
variable {G : GC} {cc : ByteArray} {ws : List Cond} {own : String} {nL : Nat} {ret : Option FieldType} {rm : Room} {sh : Nat → Nat × Nat} {N : Nat} {pc q : Nat} {st : List Value} {lv lv' : List (Nat × Value)} {S : St}
theorem Go_lv (hl : ∀ z ∈ lv', z ∈ lv) (k : Go G nL pc st lv' S) : Go G nL pc st lv S :=
  fun H locs ls hP hD hS h => k H locs ls hP hD hS ⟨h.1, h.2.1, fun z hz => h.2.2 z (hl z hz)⟩
theorem Go_lvp (ks : List Nat) (hl : lv_pick lv ks = lv') (k : Go G nL pc st lv' S) : Go G nL pc st lv S :=
  fun H locs ls hP hD hS h => k H locs ls hP hD hS (lv_sub h ks hl)
theorem Go_st {st' : List Value} (e : st' = st) (k : Go G nL pc st lv S) : Go G nL pc st' lv S := e ▸ k
theorem Go_iconst (C : Cx G cc ws own nL ret rm sh N) {n : Int} {v : Int32} (hdg : decode cc pc = .ok (.iconst n, 1)) (hv : Int32.ofInt n = v) (hq : pc + 1 = q) (k : Go G nL q (.int v :: st) lv S) : Go G nL pc (st) lv S := by
  subst hq
  exact fun H locs ls hP hD hS hl => lv_iconst C.1 C.2.1 hdg hv (k H locs ls hP hD hS hl)
theorem Go_bipush (C : Cx G cc ws own nL ret rm sh N) {n : Int} {v : Int32} (hdg : decode cc pc = .ok (.bipush n, 2)) (hv : (Int8.ofInt n).toInt32 = v) (hq : pc + 2 = q) (k : Go G nL q (.int v :: st) lv S) : Go G nL pc (st) lv S := by
  subst hq
  exact fun H locs ls hP hD hS hl => lv_bipush C.1 C.2.1 hdg hv (k H locs ls hP hD hS hl)
theorem Go_sipush (C : Cx G cc ws own nL ret rm sh N) {n : Int} {v : Int32} (hdg : decode cc pc = .ok (.sipush n, 3)) (hv : (Int16.ofInt n).toInt32 = v) (hq : pc + 3 = q) (k : Go G nL q (.int v :: st) lv S) : Go G nL pc (st) lv S := by
  subst hq
  exact fun H locs ls hP hD hS hl => lv_sipush C.1 C.2.1 hdg hv (k H locs ls hP hD hS hl)
theorem Go_lconst (C : Cx G cc ws own nL ret rm sh N) {n : Fin 2} {v : Int64} (hdg : decode cc pc = .ok (.lconst n, 1)) (hv : Int64.ofNat (n : Nat) = v) (hq : pc + 1 = q) (k : Go G nL q (.long v :: st) lv S) : Go G nL pc (st) lv S := by
  subst hq
  exact fun H locs ls hP hD hS hl => lv_lconst C.1 C.2.1 hdg hv (k H locs ls hP hD hS hl)
theorem Go_ldc (C : Cx G cc ws own nL ret rm sh N) {idx : Nat} {v : Int32} (hw : Cond.constant own idx v ∈ ws) (hdg : decode cc pc = .ok (.ldc idx, 2)) (hq : pc + 2 = q) (k : Go G nL q (.int v :: st) lv S) : Go G nL pc (st) lv S := by
  subst hq
  exact fun H locs ls hP hD hS hl => lv_ldc C.1 C.2.1 C.2.2.2.1 (C.2.2.2.2.1 _ hw) hdg (k H locs ls hP hD hS hl)
theorem Go_ldc2 (C : Cx G cc ws own nL ret rm sh N) {idx : Nat} {v : Int64} (hw : Cond.constantLong own idx v ∈ ws) (hdg : decode cc pc = .ok (.ldc2_w idx, 3)) (hq : pc + 3 = q) (k : Go G nL q (.long v :: st) lv S) : Go G nL pc (st) lv S := by
  subst hq
  exact fun H locs ls hP hD hS hl => lv_ldc2 C.1 C.2.1 C.2.2.2.1 (C.2.2.2.2.1 _ hw) hdg (k H locs ls hP hD hS hl)
theorem Go_iload_n (C : Cx G cc ws own nL ret rm sh N) {i : Fin 4} {x : Int32} (kp : Nat) (hl0 : lv[kp]? = some ((i : Nat), .int x)) (hdg : decode cc pc = .ok (.iload_n i, 1)) (hq : pc + 1 = q) (k : Go G nL q (.int x :: st) lv S) : Go G nL pc (st) lv S := by
  subst hq
  exact fun H locs ls hP hD hS hl => lv_iload_n C.1 C.2.1 hdg rfl (lv_at hl kp hl0) (k H locs ls hP hD hS hl)
theorem Go_iload (C : Cx G cc ws own nL ret rm sh N) {i : Nat} {x : Int32} (kp : Nat) (hl0 : lv[kp]? = some (i, .int x)) (hdg : decode cc pc = .ok (.iload i, 2)) (hq : pc + 2 = q) (k : Go G nL q (.int x :: st) lv S) : Go G nL pc (st) lv S := by
  subst hq
  exact fun H locs ls hP hD hS hl => lv_iload C.1 C.2.1 hdg (lv_at hl kp hl0) (k H locs ls hP hD hS hl)
theorem Go_lload_n (C : Cx G cc ws own nL ret rm sh N) {i : Fin 4} {x : Int64} (kp : Nat) (hl0 : lv[kp]? = some ((i : Nat), .long x)) (hdg : decode cc pc = .ok (.lload_n i, 1)) (hq : pc + 1 = q) (k : Go G nL q (.long x :: st) lv S) : Go G nL pc (st) lv S := by
  subst hq
  exact fun H locs ls hP hD hS hl => lv_lload_n C.1 C.2.1 hdg rfl (lv_at hl kp hl0) (k H locs ls hP hD hS hl)
theorem Go_lload (C : Cx G cc ws own nL ret rm sh N) {i : Nat} {x : Int64} (kp : Nat) (hl0 : lv[kp]? = some (i, .long x)) (hdg : decode cc pc = .ok (.lload i, 2)) (hq : pc + 2 = q) (k : Go G nL q (.long x :: st) lv S) : Go G nL pc (st) lv S := by
  subst hq
  exact fun H locs ls hP hD hS hl => lv_lload C.1 C.2.1 hdg (lv_at hl kp hl0) (k H locs ls hP hD hS hl)
theorem Go_aload_n (C : Cx G cc ws own nL ret rm sh N) {i : Fin 4} {x : Nat} (kp : Nat) (hl0 : lv[kp]? = some ((i : Nat), .ref x)) (hdg : decode cc pc = .ok (.aload_n i, 1)) (hq : pc + 1 = q) (k : Go G nL q (.ref x :: st) lv S) : Go G nL pc (st) lv S := by
  subst hq
  exact fun H locs ls hP hD hS hl => lv_aload_n C.1 C.2.1 hdg rfl (lv_at hl kp hl0) (k H locs ls hP hD hS hl)
theorem Go_aload (C : Cx G cc ws own nL ret rm sh N) {i : Nat} {x : Nat} (kp : Nat) (hl0 : lv[kp]? = some (i, .ref x)) (hdg : decode cc pc = .ok (.aload i, 2)) (hq : pc + 2 = q) (k : Go G nL q (.ref x :: st) lv S) : Go G nL pc (st) lv S := by
  subst hq
  exact fun H locs ls hP hD hS hl => lv_aload C.1 C.2.1 hdg (lv_at hl kp hl0) (k H locs ls hP hD hS hl)
theorem Go_istore_n (C : Cx G cc ws own nL ret rm sh N) {j : Fin 4} {i : Nat} (hj : (j : Nat) = i) {x : Int32} (hdg : decode cc pc = .ok (.istore_n j, 1)) (hn : i < nL) (he : (i, .int x) :: lv.filter (fun z => !(z.1 == i) && !(z.1 + 1 == i && z.2.category == 2)) = lv') (hq : pc + 1 = q) (k : Go G nL q st lv' S) : Go G nL pc (.int x :: st) lv S := by
  subst hq
  exact fun H locs ls hP hD hS hl => lv_istore_n C.1 C.2.1 hdg hj hl hn he (fun ls2 h2 => k H locs ls2 hP hD hS h2)
theorem Go_istore (C : Cx G cc ws own nL ret rm sh N) {i : Nat} {x : Int32} (hdg : decode cc pc = .ok (.istore i, 2)) (hn : i < nL) (he : (i, .int x) :: lv.filter (fun z => !(z.1 == i) && !(z.1 + 1 == i && z.2.category == 2)) = lv') (hq : pc + 2 = q) (k : Go G nL q st lv' S) : Go G nL pc (.int x :: st) lv S := by
  subst hq
  exact fun H locs ls hP hD hS hl => lv_istore C.1 C.2.1 hdg hl hn he (fun ls2 h2 => k H locs ls2 hP hD hS h2)
theorem Go_lstore_n (C : Cx G cc ws own nL ret rm sh N) {j : Fin 4} {i : Nat} (hj : (j : Nat) = i) {x : Int64} (hdg : decode cc pc = .ok (.lstore_n j, 1)) (hn : i + 1 < nL) (he : (i, .long x) :: lv.filter (fun z => !(z.1 == i) && (!(z.1 == i + 1) && !(z.1 + 1 == i && z.2.category == 2))) = lv') (hq : pc + 1 = q) (k : Go G nL q st lv' S) : Go G nL pc (.long x :: st) lv S := by
  subst hq
  exact fun H locs ls hP hD hS hl => lv_lstore_n C.1 C.2.1 hdg hj hl hn he (fun ls2 h2 => k H locs ls2 hP hD hS h2)
theorem Go_lstore (C : Cx G cc ws own nL ret rm sh N) {i : Nat} {x : Int64} (hdg : decode cc pc = .ok (.lstore i, 2)) (hn : i + 1 < nL) (he : (i, .long x) :: lv.filter (fun z => !(z.1 == i) && (!(z.1 == i + 1) && !(z.1 + 1 == i && z.2.category == 2))) = lv') (hq : pc + 2 = q) (k : Go G nL q st lv' S) : Go G nL pc (.long x :: st) lv S := by
  subst hq
  exact fun H locs ls hP hD hS hl => lv_lstore C.1 C.2.1 hdg hl hn he (fun ls2 h2 => k H locs ls2 hP hD hS h2)
theorem Go_astore_n (C : Cx G cc ws own nL ret rm sh N) {j : Fin 4} {i : Nat} (hj : (j : Nat) = i) {x : Nat} (hdg : decode cc pc = .ok (.astore_n j, 1)) (hn : i < nL) (he : (i, .ref x) :: lv.filter (fun z => !(z.1 == i) && !(z.1 + 1 == i && z.2.category == 2)) = lv') (hq : pc + 1 = q) (k : Go G nL q st lv' S) : Go G nL pc (.ref x :: st) lv S := by
  subst hq
  exact fun H locs ls hP hD hS hl => lv_astore_n C.1 C.2.1 hdg hj hl hn he (fun ls2 h2 => k H locs ls2 hP hD hS h2)
theorem Go_astore (C : Cx G cc ws own nL ret rm sh N) {i : Nat} {x : Nat} (hdg : decode cc pc = .ok (.astore i, 2)) (hn : i < nL) (he : (i, .ref x) :: lv.filter (fun z => !(z.1 == i) && !(z.1 + 1 == i && z.2.category == 2)) = lv') (hq : pc + 2 = q) (k : Go G nL q st lv' S) : Go G nL pc (.ref x :: st) lv S := by
  subst hq
  exact fun H locs ls hP hD hS hl => lv_astore C.1 C.2.1 hdg hl hn he (fun ls2 h2 => k H locs ls2 hP hD hS h2)
theorem Go_iinc (C : Cx G cc ws own nL ret rm sh N) {i kp : Nat} {n : Int} {x v : Int32} (hdg : decode cc pc = .ok (.iinc i n, 3)) (hk : lv[kp]? = some (i, .int x)) (hv : x + Int32.ofInt n = v) (hn : i < nL) (he : (i, .int v) :: lv.filter (fun z => !(z.1 == i) && !(z.1 + 1 == i && z.2.category == 2)) = lv') (hq : pc + 3 = q) (k : Go G nL q st lv' S) : Go G nL pc st lv S := by
  subst hq
  exact fun H locs ls hP hD hS hl => lv_iinc C.1 C.2.1 hdg hl hk hv hn he (fun ls2 h2 => k H locs ls2 hP hD hS h2)
theorem Go_iadd (C : Cx G cc ws own nL ret rm sh N) {x y : Int32} (hdg : decode cc pc = .ok (.iadd, 1)) (hq : pc + 1 = q) (k : Go G nL q (.int (x + y) :: st) lv S) : Go G nL pc (.int y :: .int x :: st) lv S := by
  subst hq
  exact fun H locs ls hP hD hS hl => lv_iadd C.1 C.2.1 hdg (k H locs ls hP hD hS hl)
theorem Go_isub (C : Cx G cc ws own nL ret rm sh N) {x y : Int32} (hdg : decode cc pc = .ok (.isub, 1)) (hq : pc + 1 = q) (k : Go G nL q (.int (x - y) :: st) lv S) : Go G nL pc (.int y :: .int x :: st) lv S := by
  subst hq
  exact fun H locs ls hP hD hS hl => lv_isub C.1 C.2.1 hdg (k H locs ls hP hD hS hl)
theorem Go_imul (C : Cx G cc ws own nL ret rm sh N) {x y : Int32} (hdg : decode cc pc = .ok (.imul, 1)) (hq : pc + 1 = q) (k : Go G nL q (.int (x * y) :: st) lv S) : Go G nL pc (.int y :: .int x :: st) lv S := by
  subst hq
  exact fun H locs ls hP hD hS hl => lv_imul C.1 C.2.1 hdg (k H locs ls hP hD hS hl)
theorem Go_iand (C : Cx G cc ws own nL ret rm sh N) {x y : Int32} (hdg : decode cc pc = .ok (.iand, 1)) (hq : pc + 1 = q) (k : Go G nL q (.int (x &&& y) :: st) lv S) : Go G nL pc (.int y :: .int x :: st) lv S := by
  subst hq
  exact fun H locs ls hP hD hS hl => lv_iand C.1 C.2.1 hdg (k H locs ls hP hD hS hl)
theorem Go_ior (C : Cx G cc ws own nL ret rm sh N) {x y : Int32} (hdg : decode cc pc = .ok (.ior, 1)) (hq : pc + 1 = q) (k : Go G nL q (.int (x ||| y) :: st) lv S) : Go G nL pc (.int y :: .int x :: st) lv S := by
  subst hq
  exact fun H locs ls hP hD hS hl => lv_ior C.1 C.2.1 hdg (k H locs ls hP hD hS hl)
theorem Go_ixor (C : Cx G cc ws own nL ret rm sh N) {x y : Int32} (hdg : decode cc pc = .ok (.ixor, 1)) (hq : pc + 1 = q) (k : Go G nL q (.int (x ^^^ y) :: st) lv S) : Go G nL pc (.int y :: .int x :: st) lv S := by
  subst hq
  exact fun H locs ls hP hD hS hl => lv_ixor C.1 C.2.1 hdg (k H locs ls hP hD hS hl)
theorem Go_ishl (C : Cx G cc ws own nL ret rm sh N) {x y : Int32} (hdg : decode cc pc = .ok (.ishl, 1)) (hq : pc + 1 = q) (k : Go G nL q (.int (x <<< (y &&& 31)) :: st) lv S) : Go G nL pc (.int y :: .int x :: st) lv S := by
  subst hq
  exact fun H locs ls hP hD hS hl => lv_ishl C.1 C.2.1 hdg (k H locs ls hP hD hS hl)
theorem Go_ishr (C : Cx G cc ws own nL ret rm sh N) {x y : Int32} (hdg : decode cc pc = .ok (.ishr, 1)) (hq : pc + 1 = q) (k : Go G nL q (.int (x >>> (y &&& 31)) :: st) lv S) : Go G nL pc (.int y :: .int x :: st) lv S := by
  subst hq
  exact fun H locs ls hP hD hS hl => lv_ishr C.1 C.2.1 hdg (k H locs ls hP hD hS hl)
theorem Go_iushr (C : Cx G cc ws own nL ret rm sh N) {x y : Int32} (hdg : decode cc pc = .ok (.iushr, 1)) (hq : pc + 1 = q) (k : Go G nL q (.int ((x.toUInt32 >>> (y.toUInt32 &&& Int32.toUInt32 31)).toInt32) :: st) lv S) : Go G nL pc (.int y :: .int x :: st) lv S := by
  subst hq
  exact fun H locs ls hP hD hS hl => lv_iushr C.1 C.2.1 hdg rfl (k H locs ls hP hD hS hl)
theorem Go_idiv (C : Cx G cc ws own nL ret rm sh N) {x y : Int32} (hne : ¬ y = 0) (hdg : decode cc pc = .ok (.idiv, 1)) (hq : pc + 1 = q) (k : Go G nL q (.int (x / y) :: st) lv S) : Go G nL pc (.int y :: .int x :: st) lv S := by
  subst hq
  exact fun H locs ls hP hD hS hl => lv_idiv C.1 C.2.1 hdg hne (k H locs ls hP hD hS hl)
theorem Go_irem (C : Cx G cc ws own nL ret rm sh N) {x y : Int32} (hne : ¬ y = 0) (hdg : decode cc pc = .ok (.irem, 1)) (hq : pc + 1 = q) (k : Go G nL q (.int (x - x / y * y) :: st) lv S) : Go G nL pc (.int y :: .int x :: st) lv S := by
  subst hq
  exact fun H locs ls hP hD hS hl => lv_irem C.1 C.2.1 hdg hne (k H locs ls hP hD hS hl)
theorem Go_ineg (C : Cx G cc ws own nL ret rm sh N) {x : Int32} (hdg : decode cc pc = .ok (.ineg, 1)) (hq : pc + 1 = q) (k : Go G nL q (.int (-x) :: st) lv S) : Go G nL pc (.int x :: st) lv S := by
  subst hq
  exact fun H locs ls hP hD hS hl => lv_ineg C.1 C.2.1 hdg (k H locs ls hP hD hS hl)
theorem Go_ladd (C : Cx G cc ws own nL ret rm sh N) {x y : Int64} (hdg : decode cc pc = .ok (.ladd, 1)) (hq : pc + 1 = q) (k : Go G nL q (.long (x + y) :: st) lv S) : Go G nL pc (.long y :: .long x :: st) lv S := by
  subst hq
  exact fun H locs ls hP hD hS hl => lv_ladd C.1 C.2.1 hdg (k H locs ls hP hD hS hl)
theorem Go_lsub (C : Cx G cc ws own nL ret rm sh N) {x y : Int64} (hdg : decode cc pc = .ok (.lsub, 1)) (hq : pc + 1 = q) (k : Go G nL q (.long (x - y) :: st) lv S) : Go G nL pc (.long y :: .long x :: st) lv S := by
  subst hq
  exact fun H locs ls hP hD hS hl => lv_lsub C.1 C.2.1 hdg (k H locs ls hP hD hS hl)
theorem Go_lmul (C : Cx G cc ws own nL ret rm sh N) {x y : Int64} (hdg : decode cc pc = .ok (.lmul, 1)) (hq : pc + 1 = q) (k : Go G nL q (.long (x * y) :: st) lv S) : Go G nL pc (.long y :: .long x :: st) lv S := by
  subst hq
  exact fun H locs ls hP hD hS hl => lv_lmul C.1 C.2.1 hdg (k H locs ls hP hD hS hl)
theorem Go_land (C : Cx G cc ws own nL ret rm sh N) {x y : Int64} (hdg : decode cc pc = .ok (.land, 1)) (hq : pc + 1 = q) (k : Go G nL q (.long (x &&& y) :: st) lv S) : Go G nL pc (.long y :: .long x :: st) lv S := by
  subst hq
  exact fun H locs ls hP hD hS hl => lv_land C.1 C.2.1 hdg (k H locs ls hP hD hS hl)
theorem Go_lor (C : Cx G cc ws own nL ret rm sh N) {x y : Int64} (hdg : decode cc pc = .ok (.lor, 1)) (hq : pc + 1 = q) (k : Go G nL q (.long (x ||| y) :: st) lv S) : Go G nL pc (.long y :: .long x :: st) lv S := by
  subst hq
  exact fun H locs ls hP hD hS hl => lv_lor C.1 C.2.1 hdg (k H locs ls hP hD hS hl)
theorem Go_ldiv (C : Cx G cc ws own nL ret rm sh N) {x y : Int64} (hne : ¬ y = 0) (hdg : decode cc pc = .ok (.ldiv, 1)) (hq : pc + 1 = q) (k : Go G nL q (.long (x / y) :: st) lv S) : Go G nL pc (.long y :: .long x :: st) lv S := by
  subst hq
  exact fun H locs ls hP hD hS hl => lv_ldiv C.1 C.2.1 hdg hne (k H locs ls hP hD hS hl)
theorem Go_lrem (C : Cx G cc ws own nL ret rm sh N) {x y : Int64} (hne : ¬ y = 0) (hdg : decode cc pc = .ok (.lrem, 1)) (hq : pc + 1 = q) (k : Go G nL q (.long (x - x / y * y) :: st) lv S) : Go G nL pc (.long y :: .long x :: st) lv S := by
  subst hq
  exact fun H locs ls hP hD hS hl => lv_lrem C.1 C.2.1 hdg hne (k H locs ls hP hD hS hl)
theorem Go_lushr (C : Cx G cc ws own nL ret rm sh N) {x : Int64} {y : Int32} (hdg : decode cc pc = .ok (.lushr, 1)) (hq : pc + 1 = q) (k : Go G nL q (.long ((x.toUInt64 >>> (y.toInt64.toUInt64 &&& Int64.toUInt64 63)).toInt64) :: st) lv S) : Go G nL pc (.int y :: .long x :: st) lv S := by
  subst hq
  exact fun H locs ls hP hD hS hl => lv_lushr C.1 C.2.1 hdg rfl (k H locs ls hP hD hS hl)
theorem Go_lshl (C : Cx G cc ws own nL ret rm sh N) {x : Int64} {y : Int32} (hdg : decode cc pc = .ok (.lshl, 1)) (hq : pc + 1 = q) (k : Go G nL q (.long (x <<< (y.toInt64 &&& 63)) :: st) lv S) : Go G nL pc (.int y :: .long x :: st) lv S := by
  subst hq
  exact fun H locs ls hP hD hS hl => t_lshl C.1 C.2.1 hdg rfl (k H locs ls hP hD hS hl)
theorem Go_i2l (C : Cx G cc ws own nL ret rm sh N) {x : Int32} (hdg : decode cc pc = .ok (.i2l, 1)) (hq : pc + 1 = q) (k : Go G nL q (.long x.toInt64 :: st) lv S) : Go G nL pc (.int x :: st) lv S := by
  subst hq
  exact fun H locs ls hP hD hS hl => lv_i2l C.1 C.2.1 hdg rfl (k H locs ls hP hD hS hl)
theorem Go_l2i (C : Cx G cc ws own nL ret rm sh N) {x : Int64} (hdg : decode cc pc = .ok (.l2i, 1)) (hq : pc + 1 = q) (k : Go G nL q (.int x.toInt32 :: st) lv S) : Go G nL pc (.long x :: st) lv S := by
  subst hq
  exact fun H locs ls hP hD hS hl => lv_l2i C.1 C.2.1 hdg rfl (k H locs ls hP hD hS hl)
theorem Go_i2c (C : Cx G cc ws own nL ret rm sh N) {x : Int32} (hdg : decode cc pc = .ok (.i2c, 1)) (hq : pc + 1 = q) (k : Go G nL q (.int ((x.toUInt32 % 65536).toInt32) :: st) lv S) : Go G nL pc (.int x :: st) lv S := by
  subst hq
  exact fun H locs ls hP hD hS hl => lv_i2c C.1 C.2.1 hdg rfl (k H locs ls hP hD hS hl)
theorem Go_lcmp (C : Cx G cc ws own nL ret rm sh N) {x y : Int64} (hdg : decode cc pc = .ok (.lcmp, 1)) (hq : pc + 1 = q) (k : Go G nL q (.int (lg_cmp x y) :: st) lv S) : Go G nL pc (.long y :: .long x :: st) lv S := by
  subst hq
  exact fun H locs ls hP hD hS hl => W.lcmp C.1 C.2.1 hdg (k H locs ls hP hD hS hl)
theorem Go_dup (C : Cx G cc ws own nL ret rm sh N) {v : Value} (hv : v.category = 1) (hdg : decode cc pc = .ok (.dup, 1)) (hq : pc + 1 = q) (k : Go G nL q (v :: v :: st) lv S) : Go G nL pc (v :: st) lv S := by
  subst hq
  exact fun H locs ls hP hD hS hl => lv_dup C.1 C.2.1 hdg hv (k H locs ls hP hD hS hl)
theorem Go_dup2 (C : Cx G cc ws own nL ret rm sh N) {v w : Value} (hv : v.category = 1) (hw : w.category = 1) (hdg : decode cc pc = .ok (.dup2, 1)) (hq : pc + 1 = q) (k : Go G nL q (v :: w :: v :: w :: st) lv S) : Go G nL pc (v :: w :: st) lv S := by
  subst hq
  exact fun H locs ls hP hD hS hl => lv_dup2_11 C.1 C.2.1 hdg hv hw (k H locs ls hP hD hS hl)
theorem Go_pop (C : Cx G cc ws own nL ret rm sh N) {v : Value} (hv : v.category = 1) (hdg : decode cc pc = .ok (.pop, 1)) (hq : pc + 1 = q) (k : Go G nL q (st) lv S) : Go G nL pc (v :: st) lv S := by
  subst hq
  exact fun H locs ls hP hD hS hl => lv_pop C.1 C.2.1 hdg hv (k H locs ls hP hD hS hl)
theorem Go_goto (C : Cx G cc ws own nL ret rm sh N) {off : Int} (hdg : decode cc pc = .ok (.goto off, 3)) (ht : (pc : Int) + off = (q : Int)) (k : Go G nL q st lv S) : Go G nL pc st lv S :=
  fun H locs ls hP hD hS hl => lv_goto C.1 C.2.1 hdg ht (k H locs ls hP hD hS hl)
theorem Go_icmp_eq (C : Cx G cc ws own nL ret rm sh N) {x y : Int32} {off : Int} {t : Nat} {AA BB : Prop} (hw : if x = y then AA else BB) (hdg : decode cc pc = .ok (.if_icmp .eq off, 3)) (ht : (pc : Int) + off = (t : Int)) (hq : pc + 3 = q) (kt : AA → Go G nL t st lv S) (kf : BB → Go G nL q st lv S) : Go G nL pc (.int y :: .int x :: st) lv S := by
  subst hq
  exact fun H locs ls hP hD hS hl => lv_icmp_eq C.1 C.2.1 hdg ht (fun h => kt (ite_t hw h) H locs ls hP hD hS hl) (fun h => kf (ite_f hw h) H locs ls hP hD hS hl)
theorem Go_if_eq (C : Cx G cc ws own nL ret rm sh N) {x : Int32} {off : Int} {t : Nat} {AA BB : Prop} (hw : if x = 0 then AA else BB) (hdg : decode cc pc = .ok (.ifCond .eq off, 3)) (ht : (pc : Int) + off = (t : Int)) (hq : pc + 3 = q) (kt : AA → Go G nL t st lv S) (kf : BB → Go G nL q st lv S) : Go G nL pc (.int x :: st) lv S := by
  subst hq
  exact fun H locs ls hP hD hS hl => lv_if_eq C.1 C.2.1 hdg ht (fun h => kt (ite_t hw h) H locs ls hP hD hS hl) (fun h => kf (ite_f hw h) H locs ls hP hD hS hl)
theorem Go_icmp_ne (C : Cx G cc ws own nL ret rm sh N) {x y : Int32} {off : Int} {t : Nat} {AA BB : Prop} (hw : if x = y then AA else BB) (hdg : decode cc pc = .ok (.if_icmp .ne off, 3)) (ht : (pc : Int) + off = (t : Int)) (hq : pc + 3 = q) (kf : AA → Go G nL q st lv S) (kt : BB → Go G nL t st lv S) : Go G nL pc (.int y :: .int x :: st) lv S := by
  subst hq
  exact fun H locs ls hP hD hS hl => lv_icmp_ne C.1 C.2.1 hdg ht (fun h => kt (ite_f hw h) H locs ls hP hD hS hl) (fun h => kf (ite_t hw h) H locs ls hP hD hS hl)
theorem Go_if_ne (C : Cx G cc ws own nL ret rm sh N) {x : Int32} {off : Int} {t : Nat} {AA BB : Prop} (hw : if x = 0 then AA else BB) (hdg : decode cc pc = .ok (.ifCond .ne off, 3)) (ht : (pc : Int) + off = (t : Int)) (hq : pc + 3 = q) (kf : AA → Go G nL q st lv S) (kt : BB → Go G nL t st lv S) : Go G nL pc (.int x :: st) lv S := by
  subst hq
  exact fun H locs ls hP hD hS hl => lv_if_ne C.1 C.2.1 hdg ht (fun h => kt (ite_f hw h) H locs ls hP hD hS hl) (fun h => kf (ite_t hw h) H locs ls hP hD hS hl)
theorem Go_icmp_lt (C : Cx G cc ws own nL ret rm sh N) {x y : Int32} {off : Int} {t : Nat} {AA BB : Prop} (hw : if x < y then AA else BB) (hdg : decode cc pc = .ok (.if_icmp .lt off, 3)) (ht : (pc : Int) + off = (t : Int)) (hq : pc + 3 = q) (kt : AA → Go G nL t st lv S) (kf : BB → Go G nL q st lv S) : Go G nL pc (.int y :: .int x :: st) lv S := by
  subst hq
  exact fun H locs ls hP hD hS hl => lv_icmp_lt C.1 C.2.1 hdg ht (fun h => kt (ite_t hw h) H locs ls hP hD hS hl) (fun h => kf (ite_f hw h) H locs ls hP hD hS hl)
theorem Go_if_lt (C : Cx G cc ws own nL ret rm sh N) {x : Int32} {off : Int} {t : Nat} {AA BB : Prop} (hw : if x < 0 then AA else BB) (hdg : decode cc pc = .ok (.ifCond .lt off, 3)) (ht : (pc : Int) + off = (t : Int)) (hq : pc + 3 = q) (kt : AA → Go G nL t st lv S) (kf : BB → Go G nL q st lv S) : Go G nL pc (.int x :: st) lv S := by
  subst hq
  exact fun H locs ls hP hD hS hl => lv_if_lt C.1 C.2.1 hdg ht (fun h => kt (ite_t hw h) H locs ls hP hD hS hl) (fun h => kf (ite_f hw h) H locs ls hP hD hS hl)
theorem Go_icmp_ge (C : Cx G cc ws own nL ret rm sh N) {x y : Int32} {off : Int} {t : Nat} {AA BB : Prop} (hw : if y ≤ x then AA else BB) (hdg : decode cc pc = .ok (.if_icmp .ge off, 3)) (ht : (pc : Int) + off = (t : Int)) (hq : pc + 3 = q) (kt : AA → Go G nL t st lv S) (kf : BB → Go G nL q st lv S) : Go G nL pc (.int y :: .int x :: st) lv S := by
  subst hq
  exact fun H locs ls hP hD hS hl => lv_icmp_ge C.1 C.2.1 hdg ht (fun h => kt (ite_t hw h) H locs ls hP hD hS hl) (fun h => kf (ite_f hw h) H locs ls hP hD hS hl)
theorem Go_if_ge (C : Cx G cc ws own nL ret rm sh N) {x : Int32} {off : Int} {t : Nat} {AA BB : Prop} (hw : if 0 ≤ x then AA else BB) (hdg : decode cc pc = .ok (.ifCond .ge off, 3)) (ht : (pc : Int) + off = (t : Int)) (hq : pc + 3 = q) (kt : AA → Go G nL t st lv S) (kf : BB → Go G nL q st lv S) : Go G nL pc (.int x :: st) lv S := by
  subst hq
  exact fun H locs ls hP hD hS hl => lv_if_ge C.1 C.2.1 hdg ht (fun h => kt (ite_t hw h) H locs ls hP hD hS hl) (fun h => kf (ite_f hw h) H locs ls hP hD hS hl)
theorem Go_icmp_gt (C : Cx G cc ws own nL ret rm sh N) {x y : Int32} {off : Int} {t : Nat} {AA BB : Prop} (hw : if y < x then AA else BB) (hdg : decode cc pc = .ok (.if_icmp .gt off, 3)) (ht : (pc : Int) + off = (t : Int)) (hq : pc + 3 = q) (kt : AA → Go G nL t st lv S) (kf : BB → Go G nL q st lv S) : Go G nL pc (.int y :: .int x :: st) lv S := by
  subst hq
  exact fun H locs ls hP hD hS hl => lv_icmp_gt C.1 C.2.1 hdg ht (fun h => kt (ite_t hw h) H locs ls hP hD hS hl) (fun h => kf (ite_f hw h) H locs ls hP hD hS hl)
theorem Go_if_gt (C : Cx G cc ws own nL ret rm sh N) {x : Int32} {off : Int} {t : Nat} {AA BB : Prop} (hw : if 0 < x then AA else BB) (hdg : decode cc pc = .ok (.ifCond .gt off, 3)) (ht : (pc : Int) + off = (t : Int)) (hq : pc + 3 = q) (kt : AA → Go G nL t st lv S) (kf : BB → Go G nL q st lv S) : Go G nL pc (.int x :: st) lv S := by
  subst hq
  exact fun H locs ls hP hD hS hl => lv_if_gt C.1 C.2.1 hdg ht (fun h => kt (ite_t hw h) H locs ls hP hD hS hl) (fun h => kf (ite_f hw h) H locs ls hP hD hS hl)
theorem Go_icmp_le (C : Cx G cc ws own nL ret rm sh N) {x y : Int32} {off : Int} {t : Nat} {AA BB : Prop} (hw : if x ≤ y then AA else BB) (hdg : decode cc pc = .ok (.if_icmp .le off, 3)) (ht : (pc : Int) + off = (t : Int)) (hq : pc + 3 = q) (kt : AA → Go G nL t st lv S) (kf : BB → Go G nL q st lv S) : Go G nL pc (.int y :: .int x :: st) lv S := by
  subst hq
  exact fun H locs ls hP hD hS hl => lv_icmp_le C.1 C.2.1 hdg ht (fun h => kt (ite_t hw h) H locs ls hP hD hS hl) (fun h => kf (ite_f hw h) H locs ls hP hD hS hl)
theorem Go_if_le (C : Cx G cc ws own nL ret rm sh N) {x : Int32} {off : Int} {t : Nat} {AA BB : Prop} (hw : if x ≤ 0 then AA else BB) (hdg : decode cc pc = .ok (.ifCond .le off, 3)) (ht : (pc : Int) + off = (t : Int)) (hq : pc + 3 = q) (kt : AA → Go G nL t st lv S) (kf : BB → Go G nL q st lv S) : Go G nL pc (.int x :: st) lv S := by
  subst hq
  exact fun H locs ls hP hD hS hl => lv_if_le C.1 C.2.1 hdg ht (fun h => kt (ite_t hw h) H locs ls hP hD hS hl) (fun h => kf (ite_f hw h) H locs ls hP hD hS hl)
theorem lgc_eq (x y : Int64) : lg_cmp x y = 0 ↔ x = y := by
  unfold lg_cmp
  by_cases h1 : x > y
  · have : ¬ x = y := fun e => by subst e; exact Int64.lt_irrefl h1
    simp [h1, this]
  · by_cases h2 : x = y <;> simp [h1, h2]
theorem lgc_lt (x y : Int64) : lg_cmp x y < 0 ↔ x < y := by
  unfold lg_cmp
  by_cases h1 : x > y
  · have : ¬ x < y := fun e => Int64.lt_irrefl (Int64.lt_trans e h1)
    simp [h1, this]
  · by_cases h2 : x = y
    · subst h2; simp [Int64.lt_irrefl]
    · have : x < y := by
        rcases Int64.lt_or_eq_of_le (Int64.not_lt.mp h1) with h | h
        · exact h
        · exact absurd h h2
      simp [h1, h2, this]
theorem lgc_gt (x y : Int64) : 0 < lg_cmp x y ↔ y < x := by
  unfold lg_cmp
  by_cases h1 : y < x
  · simp [h1]
  · by_cases h2 : x = y
    · subst h2; simp [Int64.lt_irrefl]
    · simp [h1, h2]
theorem lgc_ge (x y : Int64) : 0 ≤ lg_cmp x y ↔ ¬ x < y := by rw [← lgc_lt, Int32.not_lt]
theorem lgc_le (x y : Int64) : lg_cmp x y ≤ 0 ↔ ¬ y < x := by rw [← lgc_gt, Int32.not_lt]
theorem Go_lcmp_eq (C : Cx G cc ws own nL ret rm sh N) {x y : Int64} {off : Int} {t q2 : Nat} {AA BB : Prop} (hw : if x = y then AA else BB) (hd0 : decode cc pc = .ok (.lcmp, 1)) (hq : pc + 1 = q) (hdg : decode cc q = .ok (.ifCond .eq off, 3)) (ht : (q : Int) + off = (t : Int)) (hq2 : q + 3 = q2) (kt : AA → Go G nL t st lv S) (kf : BB → Go G nL q2 st lv S) : Go G nL pc (.long y :: .long x :: st) lv S := by
  subst hq; subst hq2
  exact fun H locs ls hP hD hS hl => W.lcmp C.1 C.2.1 hd0 (lv_if_eq C.1 C.2.1 hdg ht (fun h => kt (ite_t hw ((lgc_eq x y).mp h)) H locs ls hP hD hS hl) (fun h => kf (ite_f hw (fun e => h ((lgc_eq x y).mpr e))) H locs ls hP hD hS hl))
theorem Go_lcmp_ne (C : Cx G cc ws own nL ret rm sh N) {x y : Int64} {off : Int} {t q2 : Nat} {AA BB : Prop} (hw : if x = y then AA else BB) (hd0 : decode cc pc = .ok (.lcmp, 1)) (hq : pc + 1 = q) (hdg : decode cc q = .ok (.ifCond .ne off, 3)) (ht : (q : Int) + off = (t : Int)) (hq2 : q + 3 = q2) (kf : AA → Go G nL q2 st lv S) (kt : BB → Go G nL t st lv S) : Go G nL pc (.long y :: .long x :: st) lv S := by
  subst hq; subst hq2
  exact fun H locs ls hP hD hS hl => W.lcmp C.1 C.2.1 hd0 (lv_if_ne C.1 C.2.1 hdg ht (fun h => kt (ite_f hw (fun e => h ((lgc_eq x y).mpr e))) H locs ls hP hD hS hl) (fun h => kf (ite_t hw ((lgc_eq x y).mp h)) H locs ls hP hD hS hl))
theorem Go_lcmp_lt (C : Cx G cc ws own nL ret rm sh N) {x y : Int64} {off : Int} {t q2 : Nat} {AA BB : Prop} (hw : if x < y then AA else BB) (hd0 : decode cc pc = .ok (.lcmp, 1)) (hq : pc + 1 = q) (hdg : decode cc q = .ok (.ifCond .lt off, 3)) (ht : (q : Int) + off = (t : Int)) (hq2 : q + 3 = q2) (kt : AA → Go G nL t st lv S) (kf : BB → Go G nL q2 st lv S) : Go G nL pc (.long y :: .long x :: st) lv S := by
  subst hq; subst hq2
  exact fun H locs ls hP hD hS hl => W.lcmp C.1 C.2.1 hd0 (lv_if_lt C.1 C.2.1 hdg ht (fun h => kt (ite_t hw ((lgc_lt x y).mp h)) H locs ls hP hD hS hl) (fun h => kf (ite_f hw (fun e => h ((lgc_lt x y).mpr e))) H locs ls hP hD hS hl))
theorem Go_lcmp_ge (C : Cx G cc ws own nL ret rm sh N) {x y : Int64} {off : Int} {t q2 : Nat} {AA BB : Prop} (hw : if x < y then AA else BB) (hd0 : decode cc pc = .ok (.lcmp, 1)) (hq : pc + 1 = q) (hdg : decode cc q = .ok (.ifCond .ge off, 3)) (ht : (q : Int) + off = (t : Int)) (hq2 : q + 3 = q2) (kf : AA → Go G nL q2 st lv S) (kt : BB → Go G nL t st lv S) : Go G nL pc (.long y :: .long x :: st) lv S := by
  subst hq; subst hq2
  exact fun H locs ls hP hD hS hl => W.lcmp C.1 C.2.1 hd0 (lv_if_ge C.1 C.2.1 hdg ht (fun h => kt (ite_f hw ((lgc_ge x y).mp h)) H locs ls hP hD hS hl) (fun h => kf (ite_t hw (Classical.not_not.mp (fun e => h ((lgc_ge x y).mpr e)))) H locs ls hP hD hS hl))
theorem Go_lcmp_gt (C : Cx G cc ws own nL ret rm sh N) {x y : Int64} {off : Int} {t q2 : Nat} {AA BB : Prop} (hw : if y < x then AA else BB) (hd0 : decode cc pc = .ok (.lcmp, 1)) (hq : pc + 1 = q) (hdg : decode cc q = .ok (.ifCond .gt off, 3)) (ht : (q : Int) + off = (t : Int)) (hq2 : q + 3 = q2) (kt : AA → Go G nL t st lv S) (kf : BB → Go G nL q2 st lv S) : Go G nL pc (.long y :: .long x :: st) lv S := by
  subst hq; subst hq2
  exact fun H locs ls hP hD hS hl => W.lcmp C.1 C.2.1 hd0 (lv_if_gt C.1 C.2.1 hdg ht (fun h => kt (ite_t hw ((lgc_gt x y).mp h)) H locs ls hP hD hS hl) (fun h => kf (ite_f hw (fun e => h ((lgc_gt x y).mpr e))) H locs ls hP hD hS hl))
theorem Go_lcmp_le (C : Cx G cc ws own nL ret rm sh N) {x y : Int64} {off : Int} {t q2 : Nat} {AA BB : Prop} (hw : if y < x then AA else BB) (hd0 : decode cc pc = .ok (.lcmp, 1)) (hq : pc + 1 = q) (hdg : decode cc q = .ok (.ifCond .le off, 3)) (ht : (q : Int) + off = (t : Int)) (hq2 : q + 3 = q2) (kf : AA → Go G nL q2 st lv S) (kt : BB → Go G nL t st lv S) : Go G nL pc (.long y :: .long x :: st) lv S := by
  subst hq; subst hq2
  exact fun H locs ls hP hD hS hl => W.lcmp C.1 C.2.1 hd0 (lv_if_le C.1 C.2.1 hdg ht (fun h => kt (ite_f hw ((lgc_le x y).mp h)) H locs ls hP hD hS hl) (fun h => kf (ite_t hw (Classical.not_not.mp (fun e => h ((lgc_le x y).mpr e)))) H locs ls hP hD hS hl))
theorem Go_lookup (C : Cx G cc ws own nL ret rm sh N) {dflt : Int} {ps : Array (Int × Int)} {len : Nat} {x : Int32} {off : Int} {t : Nat} (hdg : decode cc pc = .ok (.lookupswitch dflt ps, len)) (hp : (ps.toList.zip (ps.toList.drop 1)).all (fun (a, next) => a.1 < next.1) = true) (ho : Op.lookupswitch.offset ps.toList dflt x.toInt = off) (ht : (pc : Int) + off = (t : Int)) (k : Go G nL t st lv S) : Go G nL pc (.int x :: st) lv S :=
  fun H locs ls hP hD hS hl => lv_lookup C.1 C.2.1 hdg hp ho ht (k H locs ls hP hD hS hl)
theorem Go_tableOut (C : Cx G cc ws own nL ret rm sh N) {dflt lo hi : Int} {offs : Array Int} {len : Nat} {x : Int32} {t : Nat} (hdg : decode cc pc = .ok (.tableswitch dflt lo hi offs, len)) (h : x.toInt < lo ∨ hi < x.toInt) (ht : (pc : Int) + dflt = (t : Int)) (k : Go G nL t st lv S) : Go G nL pc (.int x :: st) lv S :=
  fun H locs ls hP hD hS hl => lv_tableOut C.1 C.2.1 hdg h ht (k H locs ls hP hD hS hl)
theorem Go_tableIn (C : Cx G cc ws own nL ret rm sh N) {dflt lo hi : Int} {offs : Array Int} {len : Nat} {x : Int32} {off : Int} {t : Nat} (hdg : decode cc pc = .ok (.tableswitch dflt lo hi offs, len)) (h1 : ¬ x.toInt < lo) (h2 : ¬ hi < x.toInt) (ho : offs[(x.toInt - lo).toNat]? = some off) (ht : (pc : Int) + off = (t : Int)) (k : Go G nL t st lv S) : Go G nL pc (.int x :: st) lv S :=
  fun H locs ls hP hD hS hl => lv_tableIn C.1 C.2.1 hdg h1 h2 ho ht (k H locs ls hP hD hS hl)
/-- a nullable reference asked for null -/
theorem Go_ifnull (C : Cx G cc ws own nL ret rm sh N) {o : Option Nat} {off : Int} {t : Nat} {AA BB : Prop} (hw : if o = none then AA else BB) (hdg : decode cc pc = .ok (.ifnull off, 3)) (ht : (pc : Int) + off = (t : Int)) (hq : pc + 3 = q) (kt : AA → Go G nL t st lv S) (kf : BB → Go G nL q st lv S) : Go G nL pc (va_rf (o.map (Gad G)) :: st) lv S := by
  subst hq
  intro H locs ls hP hD hS hl
  cases o with
  | none => exact lv_ifnullN C.1 C.2.1 hdg ht (kt (ite_t hw rfl) H locs ls hP hD hS hl)
  | some a => exact lv_ifnull C.1 C.2.1 hdg (kf (ite_f hw (fun h => by cases h)) H locs ls hP hD hS hl)
theorem Go_ifnullS (C : Cx G cc ws own nL ret rm sh N) {a : Nat} {off : Int} (hdg : decode cc pc = .ok (.ifnull off, 3)) (hq : pc + 3 = q) (kf : Go G nL q st lv S) : Go G nL pc (.ref a :: st) lv S := by
  subst hq
  exact fun H locs ls hP hD hS hl => lv_ifnull C.1 C.2.1 hdg (kf H locs ls hP hD hS hl)

theorem Go_getI (C : Cx G cc ws own nL ret rm sh N) {ci : Nat} {CN : String} {T : u_T} {NN : Nat} {ty : Nat → FieldType} (K : CI ci CN T NN ty) (hin : ∀ w ∈ u_ws CN T NN, w ∈ ws) {o k : Nat} (ho : ok sh N o ci 0) {index : Nat} (hk : (fkd ci)[k]? = some 0) (hlk : Cond.fieldLink own index CN (T k).2.1 (T k).2.2.1 ∈ ws) (hT : (T k).1 = CN) (hdg : decode cc pc = .ok (.getfield index, 3)) (hq : pc + 3 = q) (kk : Go G nL q (.int (gI S o k) :: st) lv S) : Go G nL pc (.ref (Gad G o) :: st) lv S := by
  subst hq
  obtain ⟨-, -, -, -, -, -, -, -, -, -, -, hsh, hN, -, -⟩ := id C
  subst hsh; subst hN
  intro H locs ls hP hD hS hl
  have hc := wl_get (X := GX G) (cy := Gcy G) (ad := Gad G) (sh := Gsh G) (S := S) ho.1
  rw [cell_obj ho K.2.1] at hc
  have hkN : k < NN := by rw [← K.2.2.1]; exact (List.getElem?_eq_some_iff.mp hk).1
  exact va_get C.1 C.2.1 C.2.2.2.2.1 hin C.2.2.2.1 C.2.2.2.2.2.2.2.1 hP _ hc K.1 k hkN (C.2.2.2.2.1 _ hlk) (fun x h9 => by rw [hT] at h9; exact h9) (obj_get hk) hdg (kk H locs ls hP hD hS hl)
theorem Go_getJ (C : Cx G cc ws own nL ret rm sh N) {ci : Nat} {CN : String} {T : u_T} {NN : Nat} {ty : Nat → FieldType} (K : CI ci CN T NN ty) (hin : ∀ w ∈ u_ws CN T NN, w ∈ ws) {o k : Nat} (ho : ok sh N o ci 0) {index : Nat} (hk : (fkd ci)[k]? = some 1) (hlk : Cond.fieldLink own index CN (T k).2.1 (T k).2.2.1 ∈ ws) (hT : (T k).1 = CN) (hdg : decode cc pc = .ok (.getfield index, 3)) (hq : pc + 3 = q) (kk : Go G nL q (.long (gJ S o k) :: st) lv S) : Go G nL pc (.ref (Gad G o) :: st) lv S := by
  subst hq
  obtain ⟨-, -, -, -, -, -, -, -, -, -, -, hsh, hN, -, -⟩ := id C
  subst hsh; subst hN
  intro H locs ls hP hD hS hl
  have hc := wl_get (X := GX G) (cy := Gcy G) (ad := Gad G) (sh := Gsh G) (S := S) ho.1
  rw [cell_obj ho K.2.1] at hc
  have hkN : k < NN := by rw [← K.2.2.1]; exact (List.getElem?_eq_some_iff.mp hk).1
  exact va_get C.1 C.2.1 C.2.2.2.2.1 hin C.2.2.2.1 C.2.2.2.2.2.2.2.1 hP _ hc K.1 k hkN (C.2.2.2.2.1 _ hlk) (fun x h9 => by rw [hT] at h9; exact h9) (obj_get hk) hdg (kk H locs ls hP hD hS hl)
theorem Go_getO (C : Cx G cc ws own nL ret rm sh N) {ci : Nat} {CN : String} {T : u_T} {NN : Nat} {ty : Nat → FieldType} (K : CI ci CN T NN ty) (hin : ∀ w ∈ u_ws CN T NN, w ∈ ws) {o k : Nat} (ho : ok sh N o ci 0) {index : Nat} (hk : (fkd ci)[k]? = some 2) (hlk : Cond.fieldLink own index CN (T k).2.1 (T k).2.2.1 ∈ ws) (hT : (T k).1 = CN) (hdg : decode cc pc = .ok (.getfield index, 3)) (hq : pc + 3 = q) (kk : Go G nL q (va_rf ((gR S o k).map (Gad G)) :: st) lv S) : Go G nL pc (.ref (Gad G o) :: st) lv S := by
  subst hq
  obtain ⟨-, -, -, -, -, -, -, -, -, -, -, hsh, hN, -, -⟩ := id C
  subst hsh; subst hN
  intro H locs ls hP hD hS hl
  have hc := wl_get (X := GX G) (cy := Gcy G) (ad := Gad G) (sh := Gsh G) (S := S) ho.1
  rw [cell_obj ho K.2.1] at hc
  have hkN : k < NN := by rw [← K.2.2.1]; exact (List.getElem?_eq_some_iff.mp hk).1
  exact va_get C.1 C.2.1 C.2.2.2.2.1 hin C.2.2.2.1 C.2.2.2.2.2.2.2.1 hP _ hc K.1 k hkN (C.2.2.2.2.1 _ hlk) (fun x h9 => by rw [hT] at h9; exact h9) (obj_get hk) hdg (kk H locs ls hP hD hS hl)
theorem Go_getA (C : Cx G cc ws own nL ret rm sh N) {ci : Nat} {CN : String} {T : u_T} {NN : Nat} {ty : Nat → FieldType} (K : CI ci CN T NN ty) (hin : ∀ w ∈ u_ws CN T NN, w ∈ ws) {o k : Nat} (ho : ok sh N o ci 0) {index : Nat} {r : Nat} (hr : gR S o k = some r) (hk : (fkd ci)[k]? = some 2) (hlk : Cond.fieldLink own index CN (T k).2.1 (T k).2.2.1 ∈ ws) (hT : (T k).1 = CN) (hdg : decode cc pc = .ok (.getfield index, 3)) (hq : pc + 3 = q) (kk : Go G nL q (.ref (Gad G r) :: st) lv S) : Go G nL pc (.ref (Gad G o) :: st) lv S :=
  Go_getO C K hin ho hk hlk hT hdg hq (by rw [hr]; exact kk)
theorem Go_putI (C : Cx G cc ws own nL ret rm sh N) {ci : Nat} {CN : String} {T : u_T} {NN : Nat} {ty : Nat → FieldType} (K : CI ci CN T NN ty) (hin : ∀ w ∈ u_ws CN T NN, w ∈ ws) {o k : Nat} (ho : ok sh N o ci 0) {index : Nat} {v : Int32} (hk : (fkd ci)[k]? = some 0) (hlk : Cond.fieldLink own index CN (T k).2.1 (T k).2.2.1 ∈ ws) (hT : (T k).1 = CN) (hfin : (T k).2.2.2 = false) {fty : FieldType} (hd : parseFieldDescriptor (T k).2.2.1 = some fty) (hn : narrow fty (.int v) = .int v) (hfit : fits fty (.int v) = true) (hdg : decode cc pc = .ok (.putfield index, 3)) (hq : pc + 3 = q) (kk : Go G nL q st lv (sI S o k v)) : Go G nL pc (.int v :: .ref (Gad G o) :: st) lv S := by
  subst hq
  obtain ⟨-, -, -, -, -, -, -, -, -, -, -, hsh, hN, -, -⟩ := id C
  subst hsh; subst hN
  intro H locs ls hP hD hS hl
  have hc := wl_get (X := GX G) (cy := Gcy G) (ad := Gad G) (sh := Gsh G) (S := S) ho.1
  rw [cell_obj ho K.2.1] at hc
  have hkN : k < NN := by rw [← K.2.2.1]; exact (List.getElem?_eq_some_iff.mp hk).1
  have hlen : k < (obj (Gad G) S o (fkd ci)).length := by
    have := (List.getElem?_eq_some_iff.mp (obj_get (ad := Gad G) (S := S) (a := o) hk)).1
    exact this
  refine va_put C.1 C.2.1 C.2.2.2.2.1 hin ty K.2.2.2.1 K.2.2.2.2 C.2.2.2.1 C.2.2.2.2.2.2.2.1 hP hD hS _ hc K.1 k hkN (C.2.2.2.2.1 _ hlk) (fun x h9 => by rw [hT] at h9; exact h9) hfin hd hn hfit hlen hdg (fun H1 locs1 hP1 hD1 hS1 => ?_)
  have hset : (Wd G S).set ((GX G).length + o) (Gad G o, Sum.inr (ci, (obj (Gad G) S o (fkd ci)).set k (.int v))) = Wd G (sI S o k v) := by
    refine wl_set ?_ (fun j hj => cell_sI hj)
    rw [cell_obj ho K.2.1]
    exact congrArg (fun z => Sum.inr (ci, z)) (obj_sI hk).symm
  rw [hset] at hP1 hD1
  exact kk H1 locs1 ls hP1 hD1 hS1 hl
theorem Go_putJ (C : Cx G cc ws own nL ret rm sh N) {ci : Nat} {CN : String} {T : u_T} {NN : Nat} {ty : Nat → FieldType} (K : CI ci CN T NN ty) (hin : ∀ w ∈ u_ws CN T NN, w ∈ ws) {o k : Nat} (ho : ok sh N o ci 0) {index : Nat} {v : Int64} (hk : (fkd ci)[k]? = some 1) (hlk : Cond.fieldLink own index CN (T k).2.1 (T k).2.2.1 ∈ ws) (hT : (T k).1 = CN) (hfin : (T k).2.2.2 = false) {fty : FieldType} (hd : parseFieldDescriptor (T k).2.2.1 = some fty) (hn : narrow fty (.long v) = .long v) (hfit : fits fty (.long v) = true) (hdg : decode cc pc = .ok (.putfield index, 3)) (hq : pc + 3 = q) (kk : Go G nL q st lv (sJ S o k v)) : Go G nL pc (.long v :: .ref (Gad G o) :: st) lv S := by
  subst hq
  obtain ⟨-, -, -, -, -, -, -, -, -, -, -, hsh, hN, -, -⟩ := id C
  subst hsh; subst hN
  intro H locs ls hP hD hS hl
  have hc := wl_get (X := GX G) (cy := Gcy G) (ad := Gad G) (sh := Gsh G) (S := S) ho.1
  rw [cell_obj ho K.2.1] at hc
  have hkN : k < NN := by rw [← K.2.2.1]; exact (List.getElem?_eq_some_iff.mp hk).1
  have hlen : k < (obj (Gad G) S o (fkd ci)).length := by
    have := (List.getElem?_eq_some_iff.mp (obj_get (ad := Gad G) (S := S) (a := o) hk)).1
    exact this
  refine va_put C.1 C.2.1 C.2.2.2.2.1 hin ty K.2.2.2.1 K.2.2.2.2 C.2.2.2.1 C.2.2.2.2.2.2.2.1 hP hD hS _ hc K.1 k hkN (C.2.2.2.2.1 _ hlk) (fun x h9 => by rw [hT] at h9; exact h9) hfin hd hn hfit hlen hdg (fun H1 locs1 hP1 hD1 hS1 => ?_)
  have hset : (Wd G S).set ((GX G).length + o) (Gad G o, Sum.inr (ci, (obj (Gad G) S o (fkd ci)).set k (.long v))) = Wd G (sJ S o k v) := by
    refine wl_set ?_ (fun j hj => cell_sJ hj)
    rw [cell_obj ho K.2.1]
    exact congrArg (fun z => Sum.inr (ci, z)) (obj_sJ hk).symm
  rw [hset] at hP1 hD1
  exact kk H1 locs1 ls hP1 hD1 hS1 hl
theorem Go_putA (C : Cx G cc ws own nL ret rm sh N) {ci : Nat} {CN : String} {T : u_T} {NN : Nat} {ty : Nat → FieldType} (K : CI ci CN T NN ty) (hin : ∀ w ∈ u_ws CN T NN, w ∈ ws) {o k : Nat} (ho : ok sh N o ci 0) {index : Nat} {v : Nat} (hk : (fkd ci)[k]? = some 2) (hlk : Cond.fieldLink own index CN (T k).2.1 (T k).2.2.1 ∈ ws) (hT : (T k).1 = CN) (hfin : (T k).2.2.2 = false) {fty : FieldType} (hd : parseFieldDescriptor (T k).2.2.1 = some fty) (hn : narrow fty (.ref (Gad G v)) = .ref (Gad G v)) (hfit : fits fty (.ref (Gad G v)) = true) (hdg : decode cc pc = .ok (.putfield index, 3)) (hq : pc + 3 = q) (kk : Go G nL q st lv (sR S o k (some v))) : Go G nL pc (.ref (Gad G v) :: .ref (Gad G o) :: st) lv S := by
  subst hq
  obtain ⟨-, -, -, -, -, -, -, -, -, -, -, hsh, hN, -, -⟩ := id C
  subst hsh; subst hN
  intro H locs ls hP hD hS hl
  have hc := wl_get (X := GX G) (cy := Gcy G) (ad := Gad G) (sh := Gsh G) (S := S) ho.1
  rw [cell_obj ho K.2.1] at hc
  have hkN : k < NN := by rw [← K.2.2.1]; exact (List.getElem?_eq_some_iff.mp hk).1
  have hlen : k < (obj (Gad G) S o (fkd ci)).length := by
    have := (List.getElem?_eq_some_iff.mp (obj_get (ad := Gad G) (S := S) (a := o) hk)).1
    exact this
  refine va_put C.1 C.2.1 C.2.2.2.2.1 hin ty K.2.2.2.1 K.2.2.2.2 C.2.2.2.1 C.2.2.2.2.2.2.2.1 hP hD hS _ hc K.1 k hkN (C.2.2.2.2.1 _ hlk) (fun x h9 => by rw [hT] at h9; exact h9) hfin hd hn hfit hlen hdg (fun H1 locs1 hP1 hD1 hS1 => ?_)
  have hset : (Wd G S).set ((GX G).length + o) (Gad G o, Sum.inr (ci, (obj (Gad G) S o (fkd ci)).set k (.ref (Gad G v)))) = Wd G (sR S o k (some v)) := by
    refine wl_set ?_ (fun j hj => cell_sR hj)
    rw [cell_obj ho K.2.1]
    exact congrArg (fun z => Sum.inr (ci, z)) (obj_sR hk).symm
  rw [hset] at hP1 hD1
  exact kk H1 locs1 ls hP1 hD1 hS1 hl
theorem Go_getIN (C : Cx G cc ws own nL ret rm sh N) {ci : Nat} {CN : String} {T : u_T} {NN : Nat} {ty : Nat → FieldType} (K : CI ci CN T NN ty) (hin : ∀ w ∈ u_ws CN T NN, w ∈ ws) {o k : Nat} (ho : ok sh N o ci 0) {index : Nat} {host : String} (hk : (fkd ci)[k]? = some 0) (hlk : Cond.fieldLinkNest own index CN (T k).2.1 (T k).2.2.1 host ∈ nwL) (hT : (T k).1 = CN) (hdg : decode cc pc = .ok (.getfield index, 3)) (hq : pc + 3 = q) (kk : Go G nL q (.int (gI S o k) :: st) lv S) : Go G nL pc (.ref (Gad G o) :: st) lv S := by
  subst hq
  obtain ⟨-, -, -, -, -, -, -, -, -, -, -, hsh, hN, -, -⟩ := id C
  subst hsh; subst hN
  intro H locs ls hP hD hS hl
  have hc := wl_get (X := GX G) (cy := Gcy G) (ad := Gad G) (sh := Gsh G) (S := S) ho.1
  rw [cell_obj ho K.2.1] at hc
  have hkN : k < NN := by rw [← K.2.2.1]; exact (List.getElem?_eq_some_iff.mp hk).1
  exact va_getN C.1 C.2.1 C.2.2.2.2.1 hin C.2.2.2.1 C.2.2.2.2.2.2.2.1 hP _ hc K.1 k hkN (va_Nw.use (nest_on (nwL_nest _ hlk)) (C.2.2.2.2.2.2.2.2.2.1 _ hlk)) (fun x h9 => by rw [hT] at h9; exact h9) (obj_get hk) hdg (kk H locs ls hP hD hS hl)
theorem Go_getJN (C : Cx G cc ws own nL ret rm sh N) {ci : Nat} {CN : String} {T : u_T} {NN : Nat} {ty : Nat → FieldType} (K : CI ci CN T NN ty) (hin : ∀ w ∈ u_ws CN T NN, w ∈ ws) {o k : Nat} (ho : ok sh N o ci 0) {index : Nat} {host : String} (hk : (fkd ci)[k]? = some 1) (hlk : Cond.fieldLinkNest own index CN (T k).2.1 (T k).2.2.1 host ∈ nwL) (hT : (T k).1 = CN) (hdg : decode cc pc = .ok (.getfield index, 3)) (hq : pc + 3 = q) (kk : Go G nL q (.long (gJ S o k) :: st) lv S) : Go G nL pc (.ref (Gad G o) :: st) lv S := by
  subst hq
  obtain ⟨-, -, -, -, -, -, -, -, -, -, -, hsh, hN, -, -⟩ := id C
  subst hsh; subst hN
  intro H locs ls hP hD hS hl
  have hc := wl_get (X := GX G) (cy := Gcy G) (ad := Gad G) (sh := Gsh G) (S := S) ho.1
  rw [cell_obj ho K.2.1] at hc
  have hkN : k < NN := by rw [← K.2.2.1]; exact (List.getElem?_eq_some_iff.mp hk).1
  exact va_getN C.1 C.2.1 C.2.2.2.2.1 hin C.2.2.2.1 C.2.2.2.2.2.2.2.1 hP _ hc K.1 k hkN (va_Nw.use (nest_on (nwL_nest _ hlk)) (C.2.2.2.2.2.2.2.2.2.1 _ hlk)) (fun x h9 => by rw [hT] at h9; exact h9) (obj_get hk) hdg (kk H locs ls hP hD hS hl)
theorem Go_getON (C : Cx G cc ws own nL ret rm sh N) {ci : Nat} {CN : String} {T : u_T} {NN : Nat} {ty : Nat → FieldType} (K : CI ci CN T NN ty) (hin : ∀ w ∈ u_ws CN T NN, w ∈ ws) {o k : Nat} (ho : ok sh N o ci 0) {index : Nat} {host : String} (hk : (fkd ci)[k]? = some 2) (hlk : Cond.fieldLinkNest own index CN (T k).2.1 (T k).2.2.1 host ∈ nwL) (hT : (T k).1 = CN) (hdg : decode cc pc = .ok (.getfield index, 3)) (hq : pc + 3 = q) (kk : Go G nL q (va_rf ((gR S o k).map (Gad G)) :: st) lv S) : Go G nL pc (.ref (Gad G o) :: st) lv S := by
  subst hq
  obtain ⟨-, -, -, -, -, -, -, -, -, -, -, hsh, hN, -, -⟩ := id C
  subst hsh; subst hN
  intro H locs ls hP hD hS hl
  have hc := wl_get (X := GX G) (cy := Gcy G) (ad := Gad G) (sh := Gsh G) (S := S) ho.1
  rw [cell_obj ho K.2.1] at hc
  have hkN : k < NN := by rw [← K.2.2.1]; exact (List.getElem?_eq_some_iff.mp hk).1
  exact va_getN C.1 C.2.1 C.2.2.2.2.1 hin C.2.2.2.1 C.2.2.2.2.2.2.2.1 hP _ hc K.1 k hkN (va_Nw.use (nest_on (nwL_nest _ hlk)) (C.2.2.2.2.2.2.2.2.2.1 _ hlk)) (fun x h9 => by rw [hT] at h9; exact h9) (obj_get hk) hdg (kk H locs ls hP hD hS hl)
theorem Go_getAN (C : Cx G cc ws own nL ret rm sh N) {ci : Nat} {CN : String} {T : u_T} {NN : Nat} {ty : Nat → FieldType} (K : CI ci CN T NN ty) (hin : ∀ w ∈ u_ws CN T NN, w ∈ ws) {o k : Nat} (ho : ok sh N o ci 0) {index : Nat} {host : String} {r : Nat} (hr : gR S o k = some r) (hk : (fkd ci)[k]? = some 2) (hlk : Cond.fieldLinkNest own index CN (T k).2.1 (T k).2.2.1 host ∈ nwL) (hT : (T k).1 = CN) (hdg : decode cc pc = .ok (.getfield index, 3)) (hq : pc + 3 = q) (kk : Go G nL q (.ref (Gad G r) :: st) lv S) : Go G nL pc (.ref (Gad G o) :: st) lv S :=
  Go_getON C K hin ho hk hlk hT hdg hq (by rw [hr]; exact kk)
theorem Go_putIN (C : Cx G cc ws own nL ret rm sh N) {ci : Nat} {CN : String} {T : u_T} {NN : Nat} {ty : Nat → FieldType} (K : CI ci CN T NN ty) (hin : ∀ w ∈ u_ws CN T NN, w ∈ ws) {o k : Nat} (ho : ok sh N o ci 0) {index : Nat} {host : String} {v : Int32} (hk : (fkd ci)[k]? = some 0) (hlk : Cond.fieldLinkNest own index CN (T k).2.1 (T k).2.2.1 host ∈ nwL) (hT : (T k).1 = CN) (hfin : (T k).2.2.2 = false) {fty : FieldType} (hd : parseFieldDescriptor (T k).2.2.1 = some fty) (hn : narrow fty (.int v) = .int v) (hfit : fits fty (.int v) = true) (hdg : decode cc pc = .ok (.putfield index, 3)) (hq : pc + 3 = q) (kk : Go G nL q st lv (sI S o k v)) : Go G nL pc (.int v :: .ref (Gad G o) :: st) lv S := by
  subst hq
  obtain ⟨-, -, -, -, -, -, -, -, -, -, -, hsh, hN, -, -⟩ := id C
  subst hsh; subst hN
  intro H locs ls hP hD hS hl
  have hc := wl_get (X := GX G) (cy := Gcy G) (ad := Gad G) (sh := Gsh G) (S := S) ho.1
  rw [cell_obj ho K.2.1] at hc
  have hkN : k < NN := by rw [← K.2.2.1]; exact (List.getElem?_eq_some_iff.mp hk).1
  have hlen : k < (obj (Gad G) S o (fkd ci)).length := by
    have := (List.getElem?_eq_some_iff.mp (obj_get (ad := Gad G) (S := S) (a := o) hk)).1
    exact this
  refine va_putN C.1 C.2.1 C.2.2.2.2.1 hin ty K.2.2.2.1 K.2.2.2.2 C.2.2.2.1 C.2.2.2.2.2.2.2.1 hP hD hS _ hc K.1 k hkN (va_Nw.use (nest_on (nwL_nest _ hlk)) (C.2.2.2.2.2.2.2.2.2.1 _ hlk)) (fun x h9 => by rw [hT] at h9; exact h9) hfin hd hn hfit hlen hdg (fun H1 locs1 hP1 hD1 hS1 => ?_)
  have hset : (Wd G S).set ((GX G).length + o) (Gad G o, Sum.inr (ci, (obj (Gad G) S o (fkd ci)).set k (.int v))) = Wd G (sI S o k v) := by
    refine wl_set ?_ (fun j hj => cell_sI hj)
    rw [cell_obj ho K.2.1]
    exact congrArg (fun z => Sum.inr (ci, z)) (obj_sI hk).symm
  rw [hset] at hP1 hD1
  exact kk H1 locs1 ls hP1 hD1 hS1 hl
theorem Go_putJN (C : Cx G cc ws own nL ret rm sh N) {ci : Nat} {CN : String} {T : u_T} {NN : Nat} {ty : Nat → FieldType} (K : CI ci CN T NN ty) (hin : ∀ w ∈ u_ws CN T NN, w ∈ ws) {o k : Nat} (ho : ok sh N o ci 0) {index : Nat} {host : String} {v : Int64} (hk : (fkd ci)[k]? = some 1) (hlk : Cond.fieldLinkNest own index CN (T k).2.1 (T k).2.2.1 host ∈ nwL) (hT : (T k).1 = CN) (hfin : (T k).2.2.2 = false) {fty : FieldType} (hd : parseFieldDescriptor (T k).2.2.1 = some fty) (hn : narrow fty (.long v) = .long v) (hfit : fits fty (.long v) = true) (hdg : decode cc pc = .ok (.putfield index, 3)) (hq : pc + 3 = q) (kk : Go G nL q st lv (sJ S o k v)) : Go G nL pc (.long v :: .ref (Gad G o) :: st) lv S := by
  subst hq
  obtain ⟨-, -, -, -, -, -, -, -, -, -, -, hsh, hN, -, -⟩ := id C
  subst hsh; subst hN
  intro H locs ls hP hD hS hl
  have hc := wl_get (X := GX G) (cy := Gcy G) (ad := Gad G) (sh := Gsh G) (S := S) ho.1
  rw [cell_obj ho K.2.1] at hc
  have hkN : k < NN := by rw [← K.2.2.1]; exact (List.getElem?_eq_some_iff.mp hk).1
  have hlen : k < (obj (Gad G) S o (fkd ci)).length := by
    have := (List.getElem?_eq_some_iff.mp (obj_get (ad := Gad G) (S := S) (a := o) hk)).1
    exact this
  refine va_putN C.1 C.2.1 C.2.2.2.2.1 hin ty K.2.2.2.1 K.2.2.2.2 C.2.2.2.1 C.2.2.2.2.2.2.2.1 hP hD hS _ hc K.1 k hkN (va_Nw.use (nest_on (nwL_nest _ hlk)) (C.2.2.2.2.2.2.2.2.2.1 _ hlk)) (fun x h9 => by rw [hT] at h9; exact h9) hfin hd hn hfit hlen hdg (fun H1 locs1 hP1 hD1 hS1 => ?_)
  have hset : (Wd G S).set ((GX G).length + o) (Gad G o, Sum.inr (ci, (obj (Gad G) S o (fkd ci)).set k (.long v))) = Wd G (sJ S o k v) := by
    refine wl_set ?_ (fun j hj => cell_sJ hj)
    rw [cell_obj ho K.2.1]
    exact congrArg (fun z => Sum.inr (ci, z)) (obj_sJ hk).symm
  rw [hset] at hP1 hD1
  exact kk H1 locs1 ls hP1 hD1 hS1 hl
theorem Go_putAN (C : Cx G cc ws own nL ret rm sh N) {ci : Nat} {CN : String} {T : u_T} {NN : Nat} {ty : Nat → FieldType} (K : CI ci CN T NN ty) (hin : ∀ w ∈ u_ws CN T NN, w ∈ ws) {o k : Nat} (ho : ok sh N o ci 0) {index : Nat} {host : String} {v : Nat} (hk : (fkd ci)[k]? = some 2) (hlk : Cond.fieldLinkNest own index CN (T k).2.1 (T k).2.2.1 host ∈ nwL) (hT : (T k).1 = CN) (hfin : (T k).2.2.2 = false) {fty : FieldType} (hd : parseFieldDescriptor (T k).2.2.1 = some fty) (hn : narrow fty (.ref (Gad G v)) = .ref (Gad G v)) (hfit : fits fty (.ref (Gad G v)) = true) (hdg : decode cc pc = .ok (.putfield index, 3)) (hq : pc + 3 = q) (kk : Go G nL q st lv (sR S o k (some v))) : Go G nL pc (.ref (Gad G v) :: .ref (Gad G o) :: st) lv S := by
  subst hq
  obtain ⟨-, -, -, -, -, -, -, -, -, -, -, hsh, hN, -, -⟩ := id C
  subst hsh; subst hN
  intro H locs ls hP hD hS hl
  have hc := wl_get (X := GX G) (cy := Gcy G) (ad := Gad G) (sh := Gsh G) (S := S) ho.1
  rw [cell_obj ho K.2.1] at hc
  have hkN : k < NN := by rw [← K.2.2.1]; exact (List.getElem?_eq_some_iff.mp hk).1
  have hlen : k < (obj (Gad G) S o (fkd ci)).length := by
    have := (List.getElem?_eq_some_iff.mp (obj_get (ad := Gad G) (S := S) (a := o) hk)).1
    exact this
  refine va_putN C.1 C.2.1 C.2.2.2.2.1 hin ty K.2.2.2.1 K.2.2.2.2 C.2.2.2.1 C.2.2.2.2.2.2.2.1 hP hD hS _ hc K.1 k hkN (va_Nw.use (nest_on (nwL_nest _ hlk)) (C.2.2.2.2.2.2.2.2.2.1 _ hlk)) (fun x h9 => by rw [hT] at h9; exact h9) hfin hd hn hfit hlen hdg (fun H1 locs1 hP1 hD1 hS1 => ?_)
  have hset : (Wd G S).set ((GX G).length + o) (Gad G o, Sum.inr (ci, (obj (Gad G) S o (fkd ci)).set k (.ref (Gad G v)))) = Wd G (sR S o k (some v)) := by
    refine wl_set ?_ (fun j hj => cell_sR hj)
    rw [cell_obj ho K.2.1]
    exact congrArg (fun z => Sum.inr (ci, z)) (obj_sR hk).symm
  rw [hset] at hP1 hD1
  exact kk H1 locs1 ls hP1 hD1 hS1 hl
theorem Go_iaload (C : Cx G cc ws own nL ret rm sh N) {a n : Nat} {i : Int32} (ho : ok sh N a 14 n) (hin : vp_in i n) (hdg : decode cc pc = .ok (.iaload, 1)) (hq : pc + 1 = q) (kk : Go G nL q (.int (gI S a i.toNatClampNeg) :: st) lv S) : Go G nL pc (.int i :: .ref (Gad G a) :: st) lv S := by
  subst hq
  obtain ⟨-, -, -, -, -, -, -, -, -, -, -, hsh, hN, -, -⟩ := id C
  subst hsh; subst hN
  intro H locs ls hP hD hS hl
  have hc := wl_get (X := GX G) (cy := Gcy G) (ad := Gad G) (sh := Gsh G) (S := S) ho.1
  rw [cell_i ho] at hc
  exact va_iald C.1 C.2.1 C.2.2.2.2.2.2.2.1 hP _ 1 hc rfl hin hdg (kk H locs ls hP hD hS hl)
theorem Go_caload (C : Cx G cc ws own nL ret rm sh N) {a n : Nat} {i : Int32} (ho : ok sh N a 13 n) (hin : vp_in i n) (hdg : decode cc pc = .ok (.caload, 1)) (hq : pc + 1 = q) (kk : Go G nL q (.int (gI S a i.toNatClampNeg) :: st) lv S) : Go G nL pc (.int i :: .ref (Gad G a) :: st) lv S := by
  subst hq
  obtain ⟨-, -, -, -, -, -, -, -, -, -, -, hsh, hN, -, -⟩ := id C
  subst hsh; subst hN
  intro H locs ls hP hD hS hl
  have hc := wl_get (X := GX G) (cy := Gcy G) (ad := Gad G) (sh := Gsh G) (S := S) ho.1
  rw [cell_c ho] at hc
  exact va_cald C.1 C.2.1 C.2.2.2.2.2.2.2.1 hP _ 0 hc rfl hin hdg (kk H locs ls hP hD hS hl)
theorem Go_zaload (C : Cx G cc ws own nL ret rm sh N) {a n : Nat} {i : Int32} (ho : ok sh N a 16 n) (hin : vp_in i n) (hdg : decode cc pc = .ok (.baload, 1)) (hq : pc + 1 = q) (kk : Go G nL q (.int (gI S a i.toNatClampNeg) :: st) lv S) : Go G nL pc (.int i :: .ref (Gad G a) :: st) lv S := by
  subst hq
  obtain ⟨-, -, -, -, -, -, -, -, -, -, -, hsh, hN, -, -⟩ := id C
  subst hsh; subst hN
  intro H locs ls hP hD hS hl
  have hc := wl_get (X := GX G) (cy := Gcy G) (ad := Gad G) (sh := Gsh G) (S := S) ho.1
  rw [cell_z ho] at hc
  exact va_zald C.1 C.2.1 C.2.2.2.2.2.2.2.1 hP _ 3 hc rfl hin hdg (kk H locs ls hP hD hS hl)
theorem Go_laload (C : Cx G cc ws own nL ret rm sh N) {a n : Nat} {i : Int32} (ho : ok sh N a 15 n) (hin : vp_in i n) (hdg : decode cc pc = .ok (.laload, 1)) (hq : pc + 1 = q) (kk : Go G nL q (.long (gJ S a i.toNatClampNeg) :: st) lv S) : Go G nL pc (.int i :: .ref (Gad G a) :: st) lv S := by
  subst hq
  obtain ⟨-, -, -, -, -, -, -, -, -, -, -, hsh, hN, -, -⟩ := id C
  subst hsh; subst hN
  intro H locs ls hP hD hS hl
  have hc := wl_get (X := GX G) (cy := Gcy G) (ad := Gad G) (sh := Gsh G) (S := S) ho.1
  rw [cell_j ho] at hc
  exact va_lald C.1 C.2.1 C.2.2.2.2.2.2.2.1 hP _ 2 hc rfl hin hdg (kk H locs ls hP hD hS hl)
theorem Go_maload (C : Cx G cc ws own nL ret rm sh N) {a n : Nat} {i : Int32} (ho : ok sh N a 17 n) (hin : vp_in i n) (hdg : decode cc pc = .ok (.aaload, 1)) (hq : pc + 1 = q) (kk : Go G nL q (va_rf ((gR S a i.toNatClampNeg).map (Gad G)) :: st) lv S) : Go G nL pc (.int i :: .ref (Gad G a) :: st) lv S := by
  subst hq
  obtain ⟨-, -, -, -, -, -, -, -, -, -, -, hsh, hN, -, -⟩ := id C
  subst hsh; subst hN
  intro H locs ls hP hD hS hl
  have hc := wl_get (X := GX G) (cy := Gcy G) (ad := Gad G) (sh := Gsh G) (S := S) ho.1
  rw [cell_m ho] at hc
  exact va_aldq C.1 C.2.1 C.2.2.2.2.2.2.2.1 hP _ 4 hc rfl hin hdg (kk H locs ls hP hD hS hl)
theorem Go_iastore (C : Cx G cc ws own nL ret rm sh N) {a n : Nat} {i : Int32} {x : Int32} (ho : ok sh N a 14 n) (hin : vp_in i n) (hdg : decode cc pc = .ok (.iastore, 1)) (hq : pc + 1 = q) (kk : Go G nL q st lv (sI S a i.toNatClampNeg x)) : Go G nL pc (.int x :: .int i :: .ref (Gad G a) :: st) lv S := by
  subst hq
  obtain ⟨-, -, -, -, -, -, -, -, -, -, -, hsh, hN, -, -⟩ := id C
  subst hsh; subst hN
  intro H locs ls hP hD hS hl
  have hc := wl_get (X := GX G) (cy := Gcy G) (ad := Gad G) (sh := Gsh G) (S := S) ho.1
  rw [cell_i ho] at hc
  refine va_iast C.1 C.2.1 C.2.2.2.2.2.2.2.1 hP hD hS _ 1 hc rfl hin hdg (fun H1 locs1 hP1 hD1 hS1 => ?_)
  have hset : (Wd G S).set ((GX G).length + a) (Gad G a, Sum.inl (Gcy G 1, n, .inl (upd (gI S a) i.toNatClampNeg x))) = Wd G (sI S a i.toNatClampNeg x) := by
    refine wl_set ?_ (fun j hj => cell_sI hj)
    rw [cell_i ho]
    refine congrArg (fun z : Nat → Int32 => (Sum.inl (Gcy G 1, n, Sum.inl z) : va_E)) ?_
    funext j
    simp [upd, vp_updL, gI, sI]
  rw [hset] at hP1 hD1
  exact kk H1 locs1 ls hP1 hD1 hS1 hl
theorem Go_zastore (C : Cx G cc ws own nL ret rm sh N) {a n : Nat} {i : Int32} {x : Int32} (ho : ok sh N a 16 n) (hin : vp_in i n) (hdg : decode cc pc = .ok (.bastore, 1)) (hq : pc + 1 = q) (kk : Go G nL q st lv (sI S a i.toNatClampNeg (vp_nar .boolean x))) : Go G nL pc (.int x :: .int i :: .ref (Gad G a) :: st) lv S := by
  subst hq
  obtain ⟨-, -, -, -, -, -, -, -, -, -, -, hsh, hN, -, -⟩ := id C
  subst hsh; subst hN
  intro H locs ls hP hD hS hl
  have hc := wl_get (X := GX G) (cy := Gcy G) (ad := Gad G) (sh := Gsh G) (S := S) ho.1
  rw [cell_z ho] at hc
  refine va_zast C.1 C.2.1 C.2.2.2.2.2.2.2.1 hP hD hS _ 3 hc rfl hin hdg (fun H1 locs1 hP1 hD1 hS1 => ?_)
  have hset : (Wd G S).set ((GX G).length + a) (Gad G a, Sum.inl (Gcy G 3, n, .inl (upd (gI S a) i.toNatClampNeg (vp_nar .boolean x)))) = Wd G (sI S a i.toNatClampNeg (vp_nar .boolean x)) := by
    refine wl_set ?_ (fun j hj => cell_sI hj)
    rw [cell_z ho]
    refine congrArg (fun z : Nat → Int32 => (Sum.inl (Gcy G 3, n, Sum.inl z) : va_E)) ?_
    funext j
    simp [upd, vp_updL, gI, sI]
  rw [hset] at hP1 hD1
  exact kk H1 locs1 ls hP1 hD1 hS1 hl
theorem Go_castore (C : Cx G cc ws own nL ret rm sh N) {a n : Nat} {i : Int32} {x : Int32} (ho : ok sh N a 13 n) (hin : vp_in i n) (hdg : decode cc pc = .ok (.castore, 1)) (hq : pc + 1 = q) (kk : Go G nL q st lv (sI S a i.toNatClampNeg (vp_nar .char x))) : Go G nL pc (.int x :: .int i :: .ref (Gad G a) :: st) lv S := by
  subst hq
  obtain ⟨-, -, -, -, -, -, -, -, -, -, -, hsh, hN, -, -⟩ := id C
  subst hsh; subst hN
  intro H locs ls hP hD hS hl
  have hc := wl_get (X := GX G) (cy := Gcy G) (ad := Gad G) (sh := Gsh G) (S := S) ho.1
  rw [cell_c ho] at hc
  refine va_cast C.1 C.2.1 C.2.2.2.2.2.2.2.1 hP hD hS _ 0 hc rfl hin hdg (fun H1 locs1 hP1 hD1 hS1 => ?_)
  have hset : (Wd G S).set ((GX G).length + a) (Gad G a, Sum.inl (Gcy G 0, n, .inl (upd (gI S a) i.toNatClampNeg (vp_nar .char x)))) = Wd G (sI S a i.toNatClampNeg (vp_nar .char x)) := by
    refine wl_set ?_ (fun j hj => cell_sI hj)
    rw [cell_c ho]
    refine congrArg (fun z : Nat → Int32 => (Sum.inl (Gcy G 0, n, Sum.inl z) : va_E)) ?_
    funext j
    simp [upd, vp_updL, gI, sI]
  rw [hset] at hP1 hD1
  exact kk H1 locs1 ls hP1 hD1 hS1 hl
theorem Go_lastore (C : Cx G cc ws own nL ret rm sh N) {a n : Nat} {i : Int32} {x : Int64} (ho : ok sh N a 15 n) (hin : vp_in i n) (hdg : decode cc pc = .ok (.lastore, 1)) (hq : pc + 1 = q) (kk : Go G nL q st lv (sJ S a i.toNatClampNeg x)) : Go G nL pc (.long x :: .int i :: .ref (Gad G a) :: st) lv S := by
  subst hq
  obtain ⟨-, -, -, -, -, -, -, -, -, -, -, hsh, hN, -, -⟩ := id C
  subst hsh; subst hN
  intro H locs ls hP hD hS hl
  have hc := wl_get (X := GX G) (cy := Gcy G) (ad := Gad G) (sh := Gsh G) (S := S) ho.1
  rw [cell_j ho] at hc
  refine va_last C.1 C.2.1 C.2.2.2.2.2.2.2.1 hP hD hS _ 2 hc rfl hin hdg (fun H1 locs1 hP1 hD1 hS1 => ?_)
  have hset : (Wd G S).set ((GX G).length + a) (Gad G a, Sum.inl (Gcy G 2, n, .inr (.inl (vp_updL (gJ S a) i.toNatClampNeg x)))) = Wd G (sJ S a i.toNatClampNeg x) := by
    refine wl_set ?_ (fun j hj => cell_sJ hj)
    rw [cell_j ho]
    refine congrArg (fun z : Nat → Int64 => (Sum.inl (Gcy G 2, n, Sum.inr (Sum.inl z)) : va_E)) ?_
    funext j
    simp [upd, vp_updL, gJ, sJ]
  rw [hset] at hP1 hD1
  exact kk H1 locs1 ls hP1 hD1 hS1 hl
theorem Go_alen (C : Cx G cc ws own nL ret rm sh N) {a kd n : Nat} (ho : ok sh N a kd n) (hkd : 13 ≤ kd ∧ kd ≤ 17) (hdg : decode cc pc = .ok (.arraylength, 1)) (hq : pc + 1 = q) (kk : Go G nL q (.int (nI n) :: st) lv S) : Go G nL pc (.ref (Gad G a) :: st) lv S := by
  subst hq
  obtain ⟨-, -, -, -, -, -, -, -, -, -, -, hsh, hN, -, -⟩ := id C
  subst hsh; subst hN
  intro H locs ls hP hD hS hl
  have hc := wl_get (X := GX G) (cy := Gcy G) (ad := Gad G) (sh := Gsh G) (S := S) ho.1
  have hk9 : kd = 13 ∨ kd = 14 ∨ kd = 15 ∨ kd = 16 ∨ kd = 17 := by omega
  rcases hk9 with rfl | rfl | rfl | rfl | rfl
  · rw [cell_c ho] at hc; exact va_alen C.1 C.2.1 C.2.2.2.2.2.2.2.1 hP _ 0 hc rfl rfl hdg (kk H locs ls hP hD hS hl)
  · rw [cell_i ho] at hc; exact va_alen C.1 C.2.1 C.2.2.2.2.2.2.2.1 hP _ 1 hc rfl rfl hdg (kk H locs ls hP hD hS hl)
  · rw [cell_j ho] at hc; exact va_alen C.1 C.2.1 C.2.2.2.2.2.2.2.1 hP _ 2 hc rfl rfl hdg (kk H locs ls hP hD hS hl)
  · rw [cell_z ho] at hc; exact va_alen C.1 C.2.1 C.2.2.2.2.2.2.2.1 hP _ 3 hc rfl rfl hdg (kk H locs ls hP hD hS hl)
  · rw [cell_m ho] at hc; exact va_alen C.1 C.2.1 C.2.2.2.2.2.2.2.1 hP _ 4 hc rfl rfl hdg (kk H locs ls hP hD hS hl)

theorem Go_topi {x : Int32} (k : ∀ y : Int32, y = x → Go G nL pc (.int y :: st) lv S) : Go G nL pc (.int x :: st) lv S := k x rfl
theorem Go_topl {x : Int64} (k : ∀ y : Int64, y = x → Go G nL pc (.long y :: st) lv S) : Go G nL pc (.long x :: st) lv S := k x rfl
theorem Go_S (k : ∀ S1 : St, S1 = S → Go G nL pc st lv S1) : Go G nL pc st lv S := k S rfl
theorem Go_lve (e : lv = lv') (k : Go G nL pc st lv' S) : Go G nL pc st lv S := e ▸ k
theorem Go_deref {o : Option Nat} {r : Nat} (e : o = some r) (k : Go G nL pc (.ref (Gad G r) :: st) lv S) : Go G nL pc (va_rf (Option.map (Gad G) o) :: st) lv S := by subst e; exact k
theorem Go_iinc2 {cst : Int32} (C : Cx G cc ws own nL ret rm sh N) {i kp : Nat} {n : Int} {x : Int32} (hdg : decode cc pc = .ok (.iinc i n, 3)) (hk : lv[kp]? = some (i, .int x)) (hc : Int32.ofInt n = cst) (hn : i < nL) (hq : pc + 3 = q) (k : ∀ v : Int32, v = x + cst → Go G nL q st ((i, .int v) :: lv.filter (fun z => !(z.1 == i) && !(z.1 + 1 == i && z.2.category == 2))) S) : Go G nL pc st lv S := by
  subst hc
  exact Go_iinc C hdg hk rfl hn rfl hq (k _ rfl)
theorem Go_anull (C : Cx G cc ws own nL ret rm sh N) (hdg : decode cc pc = .ok (.aconst_null, 1)) (hq : pc + 1 = q) (k : Go G nL q (.null :: st) lv S) : Go G nL pc st lv S := by
  subst hq
  exact fun H locs ls hP hD hS hl => lv_null C.1 C.2.1 hdg (k H locs ls hP hD hS hl)
theorem Go_aloadO_n (C : Cx G cc ws own nL ret rm sh N) {i : Fin 4} {o : Option Nat} (kp : Nat) (hl0 : lv[kp]? = some ((i : Nat), va_rf (Option.map (Gad G) o))) (hdg : decode cc pc = .ok (.aload_n i, 1)) (hq : pc + 1 = q) (k : Go G nL q (va_rf (Option.map (Gad G) o) :: st) lv S) : Go G nL pc st lv S := by
  subst hq
  intro H locs ls hP hD hS hl
  cases o with
  | none => exact lv_aload_nN C.1 C.2.1 hdg rfl (lv_at hl kp hl0) (k H locs ls hP hD hS hl)
  | some a => exact lv_aload_n C.1 C.2.1 hdg rfl (lv_at hl kp hl0) (k H locs ls hP hD hS hl)
theorem Go_astoreO_n (C : Cx G cc ws own nL ret rm sh N) {j : Fin 4} {i : Nat} {o : Option Nat} (hj : (j : Nat) = i) (hdg : decode cc pc = .ok (.astore_n j, 1)) (hn : i < nL) (he : (i, va_rf (Option.map (Gad G) o)) :: lv.filter (fun z => !(z.1 == i) && !(z.1 + 1 == i && z.2.category == 2)) = lv') (hq : pc + 1 = q) (k : Go G nL q st lv' S) : Go G nL pc (va_rf (Option.map (Gad G) o) :: st) lv S := by
  subst hq
  intro H locs ls hP hD hS hl
  cases o with
  | none => exact lv_astore_nN C.1 C.2.1 hdg hj hl hn he (fun ls2 h2 => k H locs ls2 hP hD hS h2)
  | some a => exact lv_astore_n C.1 C.2.1 hdg hj hl hn he (fun ls2 h2 => k H locs ls2 hP hD hS h2)
theorem Go_zastore2 (C : Cx G cc ws own nL ret rm sh N) {a n : Nat} {i : Int32} {x : Int32} (ho : ok sh N a 16 n) (hin : vp_in i n) (hz : x = 0 ∨ x = 1) (hdg : decode cc pc = .ok (.bastore, 1)) (hq : pc + 1 = q) (kk : Go G nL q st lv (sI S a i.toNatClampNeg x)) : Go G nL pc (.int x :: .int i :: .ref (Gad G a) :: st) lv S := by
  refine Go_zastore C ho hin hdg hq ?_
  have e : vp_nar .boolean x = x := by rcases hz with rfl | rfl <;> rfl
  rw [e]
  exact kk
theorem Go_alen2 {v : Int32} (C : Cx G cc ws own nL ret rm sh N) {a kd n : Nat} (ho : ok sh N a kd n) (hkd : 13 ≤ kd ∧ kd ≤ 17) (hv : nI n = v) (hdg : decode cc pc = .ok (.arraylength, 1)) (hq : pc + 1 = q) (kk : Go G nL q (.int v :: st) lv S) : Go G nL pc (.ref (Gad G a) :: st) lv S := by
  subst hv
  exact Go_alen C ho hkd hdg hq kk
theorem Go_ldc_w (C : Cx G cc ws own nL ret rm sh N) {idx : Nat} {v : Int32} (hw : Cond.constant own idx v ∈ ws) (hdg : decode cc pc = .ok (.ldc_w idx, 3)) (hq : pc + 3 = q) (k : Go G nL q (.int v :: st) lv S) : Go G nL pc st lv S := by
  subst hq
  exact fun H locs ls hP hD hS hl => lv_ldcw C.1 C.2.1 C.2.2.2.1 (C.2.2.2.2.1 _ hw) hdg (k H locs ls hP hD hS hl)
end GoRows
theorem ne_toInt {x k : Int32} (h : ¬ x = k) : ¬ x.toInt = k.toInt := fun e => h (Int32.toInt_inj.mp e)
theorem tz0 : (0 : Int32).toInt = 0 := rfl
theorem tz1 : (1 : Int32).toInt = 1 := rfl
theorem tz2 : (2 : Int32).toInt = 2 := rfl
theorem tz3 : (3 : Int32).toInt = 3 := rfl
theorem tz4 : (4 : Int32).toInt = 4 := rfl
theorem tz5 : (5 : Int32).toInt = 5 := rfl
theorem tz6 : (6 : Int32).toInt = 6 := rfl
theorem tz7 : (7 : Int32).toInt = 7 := rfl
theorem tz8 : (8 : Int32).toInt = 8 := rfl
theorem tz9 : (9 : Int32).toInt = 9 := rfl

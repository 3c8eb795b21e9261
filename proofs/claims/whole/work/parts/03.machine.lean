/-! A pure machine: values are ints (as Int) or references; a heap is a map of cells (tag, length, contents), its size, and the slots spent. A method is a function on such heaps; none: it would not go on. -/
abbrev jV : Type := Int ⊕ Option Nat
abbrev jC : Type := Nat × Nat × (Nat → jV)
abbrev jH : Type := (Nat → Option jC) × Nat × Nat
abbrev jR : Type := Option jV × jH
abbrev jK : Type := List (Option jV) → List jV → jH → Option jR
abbrev jF : Type := List jV → jH → Option jR
def jm_wr (x : Int) : Int := Int.bmod x 4294967296
def jm_upd (f : Nat → jV) (i : Nat) (u : jV) : Nat → jV := fun j => if j = i then u else f j
def jm_put (h : jH) (a : Nat) (q : jC) : jH := (fun b => if b = a then some q else h.1 b, h.2)
def jm_set (h : jH) (a : Nat) (q : jC) (i : Nat) (u : jV) : jH := jm_put h a (q.1, q.2.1, jm_upd q.2.2 i u)
def jm_new (h : jH) (q : jC) : jH := (fun b => if b = h.2.1 then some q else h.1 b, h.2.1 + 1, h.2.2 + q.2.1)
def jm_init (nL : Nat) (pa : List jV) : List (Option jV) := pa.map some ++ List.replicate (nL - pa.length) none
def jk_none : jK := fun _ _ _ => none
def jk_int (n : Int) (k : jK) : jK := fun L S h => k L (.inl n :: S) h
def jk_null (k : jK) : jK := fun L S h => k L (.inr none :: S) h
def jk_iload (i : Nat) (k : jK) : jK := fun L S h => match L[i]? with
  | some (some (.inl n)) => k L (.inl n :: S) h
  | _ => none
def jk_aload (i : Nat) (k : jK) : jK := fun L S h => match L[i]? with
  | some (some (.inr r)) => k L (.inr r :: S) h
  | _ => none
def jk_istore (i : Nat) (k : jK) : jK := fun L S h => match S with
  | .inl n :: S' => k (L.set i (some (.inl n))) S' h
  | _ => none
def jk_astore (i : Nat) (k : jK) : jK := fun L S h => match S with
  | .inr r :: S' => k (L.set i (some (.inr r))) S' h
  | _ => none
def jk_kill (i : Nat) (k : jK) : jK := fun L S h => k (L.set i none) S h
def jk_iinc (i : Nat) (d : Int) (k : jK) : jK := fun L S h => match L[i]? with
  | some (some (.inl n)) => k (L.set i (some (.inl (jm_wr (n + d))))) S h
  | _ => none
def jk_iadd (k : jK) : jK := fun L S h => match S with
  | .inl y :: .inl x :: S' => k L (.inl (jm_wr (x + y)) :: S') h
  | _ => none
def jk_isub (k : jK) : jK := fun L S h => match S with
  | .inl y :: .inl x :: S' => k L (.inl (jm_wr (x - y)) :: S') h
  | _ => none
def jk_imul (k : jK) : jK := fun L S h => match S with
  | .inl y :: .inl x :: S' => k L (.inl (jm_wr (x * y)) :: S') h
  | _ => none
def jk_idiv (k : jK) : jK := fun L S h => match S with
  | .inl y :: .inl x :: S' => if y = 0 then none else k L (.inl (jm_wr (x.tdiv y)) :: S') h
  | _ => none
def jk_irem (k : jK) : jK := fun L S h => match S with
  | .inl y :: .inl x :: S' => if y = 0 then none else k L (.inl (jm_wr (x - jm_wr (jm_wr (x.tdiv y) * y))) :: S') h
  | _ => none
def jk_and15 (k : jK) : jK := fun L S h => match S with
  | .inl y :: .inl x :: S' => if y = 15 then k L (.inl (x % 16) :: S') h else none
  | _ => none
def jk_i2b (k : jK) : jK := fun L S h => match S with
  | .inl x :: S' => k L (.inl (Int.bmod x 256) :: S') h
  | _ => none
def jk_max (k : jK) : jK := fun L S h => match S with
  | .inl y :: .inl x :: S' => if S'.length ≤ 8 then k L (.inl (if x < y then y else x) :: S') h else none
  | _ => none
def jk_min (k : jK) : jK := fun L S h => match S with
  | .inl y :: .inl x :: S' => if S'.length ≤ 8 then k L (.inl (if y < x then y else x) :: S') h else none
  | _ => none
def jk_dup (k : jK) : jK := fun L S h => match S with
  | u :: S' => k L (u :: u :: S') h
  | _ => none
def jk_dup2 (k : jK) : jK := fun L S h => match S with
  | u :: v :: S' => k L (u :: v :: u :: v :: S') h
  | _ => none
def jk_ifeq (kt kf : jK) : jK := fun L S h => match S with
  | .inl x :: S' => if x = 0 then kt L S' h else kf L S' h
  | _ => none
def jk_ifne (kt kf : jK) : jK := fun L S h => match S with
  | .inl x :: S' => if x = 0 then kf L S' h else kt L S' h
  | _ => none
def jk_iflt (kt kf : jK) : jK := fun L S h => match S with
  | .inl x :: S' => if x < 0 then kt L S' h else kf L S' h
  | _ => none
def jk_ifge (kt kf : jK) : jK := fun L S h => match S with
  | .inl x :: S' => if x < 0 then kf L S' h else kt L S' h
  | _ => none
def jk_ifgt (kt kf : jK) : jK := fun L S h => match S with
  | .inl x :: S' => if 0 < x then kt L S' h else kf L S' h
  | _ => none
def jk_ifle (kt kf : jK) : jK := fun L S h => match S with
  | .inl x :: S' => if 0 < x then kf L S' h else kt L S' h
  | _ => none
def jk_icmpeq (kt kf : jK) : jK := fun L S h => match S with
  | .inl y :: .inl x :: S' => if x = y then kt L S' h else kf L S' h
  | _ => none
def jk_icmpne (kt kf : jK) : jK := fun L S h => match S with
  | .inl y :: .inl x :: S' => if x = y then kf L S' h else kt L S' h
  | _ => none
def jk_icmplt (kt kf : jK) : jK := fun L S h => match S with
  | .inl y :: .inl x :: S' => if x < y then kt L S' h else kf L S' h
  | _ => none
def jk_icmpge (kt kf : jK) : jK := fun L S h => match S with
  | .inl y :: .inl x :: S' => if x < y then kf L S' h else kt L S' h
  | _ => none
def jk_icmpgt (kt kf : jK) : jK := fun L S h => match S with
  | .inl y :: .inl x :: S' => if y < x then kt L S' h else kf L S' h
  | _ => none
def jk_icmple (kt kf : jK) : jK := fun L S h => match S with
  | .inl y :: .inl x :: S' => if y < x then kf L S' h else kt L S' h
  | _ => none
def jk_ifnull (kt kf : jK) : jK := fun L S h => match S with
  | .inr none :: S' => kt L S' h
  | .inr (some _) :: S' => kf L S' h
  | _ => none
def jk_ifnonnull (kt kf : jK) : jK := fun L S h => match S with
  | .inr none :: S' => kf L S' h
  | .inr (some _) :: S' => kt L S' h
  | _ => none
def jm_pick (x : Int) : List (Int × jK) → jK → jK
  | [], d => d
  | (v, k) :: cs, d => if x = v then k else jm_pick x cs d
def jk_sw (cs : List (Int × jK)) (d : jK) : jK := fun L S h => match S with
  | .inl x :: S' => jm_pick x cs d L S' h
  | _ => none
def jk_get (tags : List Nat) (f : Nat) (k : jK) : jK := fun L S h => match S with
  | .inr (some a) :: S' => match h.1 a with
    | some q => if q.1 ∈ tags then k L (q.2.2 f :: S') h else none
    | none => none
  | _ => none
def jk_puti (tags : List Nat) (f : Nat) (k : jK) : jK := fun L S h => match S with
  | .inl n :: .inr (some a) :: S' => match h.1 a with
    | some q => if q.1 ∈ tags then k L S' (jm_set h a q f (.inl n)) else none
    | none => none
  | _ => none
def jk_putz (tags : List Nat) (f : Nat) (k : jK) : jK := fun L S h => match S with
  | .inl n :: .inr (some a) :: S' => match h.1 a with
    | some q => if q.1 ∈ tags ∧ (n = 0 ∨ n = 1) then k L S' (jm_set h a q f (.inl n)) else none
    | none => none
  | _ => none
def jk_puta (tags : List Nat) (f : Nat) (k : jK) : jK := fun L S h => match S with
  | .inr r :: .inr (some a) :: S' => match h.1 a with
    | some q => if q.1 ∈ tags then k L S' (jm_set h a q f (.inr r)) else none
    | none => none
  | _ => none
def jk_iald (k : jK) : jK := fun L S h => match S with
  | .inl i :: .inr (some a) :: S' => match h.1 a with
    | some q => if (q.1 = 20 ∨ q.1 = 30) ∧ 0 ≤ i ∧ i < q.2.1 then k L (q.2.2 i.toNat :: S') h else none
    | none => none
  | _ => none
def jk_xald (tag : Nat) (k : jK) : jK := fun L S h => match S with
  | .inl i :: .inr (some a) :: S' => match h.1 a with
    | some q => if q.1 = tag ∧ 0 ≤ i ∧ i < q.2.1 then k L (q.2.2 i.toNat :: S') h else none
    | none => none
  | _ => none
def jk_iast (k : jK) : jK := fun L S h => match S with
  | .inl v :: .inl i :: .inr (some a) :: S' => match h.1 a with
    | some q => if q.1 = 20 ∧ 0 ≤ i ∧ i < q.2.1 then k L S' (jm_set h a q i.toNat (.inl v)) else none
    | none => none
  | _ => none
def jk_zast (k : jK) : jK := fun L S h => match S with
  | .inl v :: .inl i :: .inr (some a) :: S' => match h.1 a with
    | some q => if q.1 = 21 ∧ 0 ≤ i ∧ i < q.2.1 ∧ (v = 0 ∨ v = 1) then k L S' (jm_set h a q i.toNat (.inl v)) else none
    | none => none
  | _ => none
def jk_bast (k : jK) : jK := fun L S h => match S with
  | .inl v :: .inl i :: .inr (some a) :: S' => match h.1 a with
    | some q => if q.1 = 22 ∧ 0 ≤ i ∧ i < q.2.1 then k L S' (jm_set h a q i.toNat (.inl (Int.bmod v 256))) else none
    | none => none
  | _ => none
def jm_may (tag : Nat) : List Nat := if tag = 23 then [0] else if tag = 24 then [1, 2, 3, 4, 5, 6, 7, 8] else [9]
def jk_aast (tag : Nat) (k : jK) : jK := fun L S h => match S with
  | .inr (some v) :: .inl i :: .inr (some a) :: S' => match h.1 a, h.1 v with
    | some q, some w => if q.1 = tag ∧ 0 ≤ i ∧ i < q.2.1 ∧ w.1 ∈ jm_may tag then k L S' (jm_set h a q i.toNat (.inr (some v))) else none
    | _, _ => none
  | _ => none
def jk_alen (k : jK) : jK := fun L S h => match S with
  | .inr (some a) :: S' => match h.1 a with
    | some q => if 20 ≤ q.1 ∧ q.1 ≤ 30 then k L (.inl q.2.1 :: S') h else none
    | none => none
  | _ => none
def jk_newarr (tag : Nat) (u : jV) (k : jK) : jK := fun L S h => match S with
  | .inl n :: S' => if 0 ≤ n ∧ n ≤ 100000 then k L (.inr (some h.2.1) :: S') (jm_new h (tag, n.toNat, fun _ => u)) else none
  | _ => none
def jk_new (tag n : Nat) (refs : List Nat) (k : jK) : jK := fun L S h => k L (.inr (some h.2.1) :: S) (jm_new h (tag, n, fun j => if j ∈ refs then .inr none else .inl 0))
/-- the cell that stands for the statics: the one of tag 31 -/
noncomputable def jm_stat (h : jH) : Option jC := @dite _ (∃ q : jC, q.1 = 31 ∧ ∃ a, h.1 a = some q) (Classical.propDecidable _) (fun hx => some (Classical.choose hx)) (fun _ => none)
theorem jm_stat_some {h : jH} {q : jC} (hq : jm_stat h = some q) : q.1 = 31 ∧ ∃ a, h.1 a = some q := by
  unfold jm_stat at hq
  by_cases hx : ∃ q : jC, q.1 = 31 ∧ ∃ a, h.1 a = some q
  · rw [dif_pos hx] at hq
    cases hq
    exact Classical.choose_spec hx
  · rw [dif_neg hx] at hq
    cases hq
theorem jm_stat_at {h : jH} {q : jC} {a : Nat} (ha : h.1 a = some q) (ht : q.1 = 31) : ∃ q', jm_stat h = some q' ∧ q'.1 = 31 ∧ ∃ a', h.1 a' = some q' := by
  have hx : ∃ q : jC, q.1 = 31 ∧ ∃ a, h.1 a = some q := ⟨q, ht, a, ha⟩
  exact ⟨Classical.choose hx, by unfold jm_stat; rw [dif_pos hx], Classical.choose_spec hx⟩
noncomputable def jk_static (j : Nat) (k : jK) : jK := fun L S h => match jm_stat h with
  | some q => k L (q.2.2 j :: S) h
  | none => none
def jk_obj (k : jK) : jK := fun L S h => match S with
  | .inr (some _) :: S' => if S'.length ≤ 8 then k L S' h else none
  | _ => none
def jm_back (k : jK) (L : List (Option jV)) (S : List jV) (x : Option jR) : Option jR := match x with
  | some (none, h) => k L S h
  | some (some u, h) => k L (u :: S) h
  | none => none
/-- a static method, or a constructor: n values are its arguments -/
def jk_call (f : jF) (n : Nat) (k : jK) : jK := fun L S h => if n ≤ S.length ∧ S.length ≤ n + 8 then jm_back k L (S.drop n) (f (S.take n).reverse h) else none
/-- a constructor: the object, and n arguments -/
def jk_icall (f : jF) (n : Nat) (k : jK) : jK := fun L S h => if n < S.length ∧ S.length ≤ n + 9 then match S[n]? with
  | some (.inr (some _)) => jm_back k L (S.drop (n + 1)) (f (S.take (n + 1)).reverse h)
  | _ => none else none
def jm_look (t : Nat) : List (Nat × jF) → Option jF
  | [] => none
  | (u, f) :: r => if t = u then some f else jm_look t r
/-- a method of an object: its tag says which -/
def jk_vcall (tb : List (Nat × jF)) (n : Nat) (k : jK) : jK := fun L S h => if n < S.length ∧ S.length ≤ n + 9 then match S[n]? with
  | some (.inr (some a)) => match h.1 a with
    | some q => match jm_look q.1 tb with
      | some f => jm_back k L (S.drop (n + 1)) (f (S.take (n + 1)).reverse h)
      | none => none
    | none => none
  | _ => none else none
def jk_iret : jK := fun _ S h => match S with
  | [.inl n] => some (some (.inl n), h)
  | _ => none
def jk_zret : jK := fun _ S h => match S with
  | [.inl n] => if n = 0 ∨ n = 1 then some (some (.inl n), h) else none
  | _ => none
def jk_aret : jK := fun _ S h => match S with
  | [.inr r] => some (some (.inr r), h)
  | _ => none
def jk_vret : jK := fun _ S h => match S with
  | [] => some (none, h)
  | _ => none
def jk_fix (F : (Nat → jK) → Nat → jK) : Nat → Nat → jK
  | 0, _ => jk_none
  | i + 1, b => F (jk_fix F i) b
def jm_run (na nL : Nat) (k : jK) : jF := fun pa h => if pa.length = na then k (jm_init nL pa) [] h else none

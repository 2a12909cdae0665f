def tc_until : List aI := [.iconst 0, .istore 2, .iload 2, .aload 0, .getfield 3, .if_icmp .ge 16, .aload 0, .getfield 0, .aload 0, .getfield 1, .iload 2, .iaload, .iaload, .iload 1, .if_icmp .gt 16, .iinc 2 1, .goto 2, .iload 2, .ireturn]
def tc_until2 : List aI := [.iconst 0, .istore 2, .iload 2, .aload 0, .getfield 3, .if_icmp .ge 17, .aload 0, .getfield 0, .aload 0, .getfield 1, .iload 2, .iaload, .iaload, .iload 1, .if_icmp .gt 17, .iinc 2 1, .goto 2, .iload 2, .ireturn]
def t_SH : List aC := [(0,0,[]), (0,0,[]), (1, 10, []), (1,10,[]), (10, 4, [2,3,0,0])]
def t_ft : Nat → Nat → Nat := fun _ k => match k with | 0 => 0 | 1 => 0 | 2 => 2 | _ => 1
def wp_x (post : Option aV → aS → Prop) (cut : Nat → aL → List aV → aS → Prop) (code : List aI) (i : Nat) (ls : aL) (st : List aV) (S : aS) : Prop :=
  am_x (X := Prop) t_ft (fun _ => 1) False (fun c _ x y => (c → x) ∧ (¬ c → y)) (fun c _ x => c ∧ x) (fun _ _ _ _ => False) (fun _ _ _ _ => False) post cut code 3000 i (code.drop i) ls st S
theorem t1 (post : Option aV → aS → Prop) (cut : Nat → aL → List aV → aS → Prop) (h : aH) (n m : Int) :
  wp_x post cut tc_until2 2 [(2, .inl n), (1, .inl m), (0, .inr (.inr 4))] [] (t_SH, h) =
   ((h 4 3 ≤ n → post (some (.inl n)) (t_SH, h)) ∧ (¬ h 4 3 ≤ n → am_ix n 10 ∧ am_ix (h 3 n.toNat) 10 ∧ (m < h 2 (h 3 n.toNat).toNat → post (some (.inl n)) (t_SH, h)) ∧ (¬ m < h 2 (h 3 n.toNat).toNat → am_rg (n + 1) ∧ cut 2 [(2, .inl (n+1)), (1, .inl m), (0, .inr (.inr 4))] [] (t_SH, h)))) := rfl

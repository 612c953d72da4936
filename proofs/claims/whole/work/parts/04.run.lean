/-! the small machine's run: steps of fuel, depth of calls; the four members of the library that it takes whole -/
def qm_str (a : Nat) : List Nat := if a = 1000000 then [115, 107, 101, 116, 99, 104, 105, 110, 32, 32, 32, 32, 104, 111, 108, 101, 32, 32, 114, 97, 110, 107, 32, 32, 118, 97, 114, 32, 32, 32, 109, 117, 115, 116, 32, 32, 105, 102, 32, 32, 32, 32, 101, 108, 115, 101, 32, 32, 108, 111, 111, 112, 32, 32, 119, 104, 105, 108, 101, 32, 109, 111, 115, 116, 32, 32, 108, 101, 116, 32, 32, 32, 115, 112, 101, 99, 32, 32] else if a = 1000002 then [59, 61, 38, 124, 94, 60, 43, 45, 42, 47, 37, 126, 40, 41, 123, 125] else []
def qm_ixF (c : Int32) : List Nat → Nat → Int32
  | [], _ => -1
  | b :: l, k => if Int32.ofNat b = c then Int32.ofNat k else qm_ixF c l (k + 1)
def qm_p (j : Nat) (as : List Value) (h : qm_H) : Option (Option Value × qm_H) := match j - qm_NM, as with
  | 0, [.ref a] => if qm_str a = [] then none else some (some (.int (Int32.ofNat (qm_str a).length)), h)
  | 1, [.ref a, .int i] => if qm_in i (qm_str a).length = true then some (some (.int (Int32.ofNat ((qm_str a).getD i.toNatClampNeg 0))), h) else none
  | 2, [.ref a, .int c] => if qm_str a = [] then none else some (some (.int (qm_ixF c (qm_str a) 0)), h)
  | 3, [.ref a, .int n] => match h.1[a]? with
    | some (1, len) => if qm_in n 100000 = true ∧ len < 100000 ∧ h.1.length < 900000 then some (some (.ref h.1.length), (h.1 ++ [(1, n.toNatClampNeg)], (fun b j => if b = h.1.length then (if j < len then h.2.1 a j else 0) else h.2.1 b j), qm_z h.2.2 h.1.length none)) else none
    | _ => none
  | 4, [.int x, .int y] => some (some (.int (if x < y then y else x)), h)
  | 5, [.int x, .int y] => some (some (.int (if y < x then y else x)), h)
  | _, _ => none
def qm_run : Nat → Nat → Nat → Nat → List Value → List Value → qm_H → Option (Option Value × qm_H)
  | 0, _, _, _, _, _, _ => none
  | f + 1, d, k, pc, ls, st, h =>
    match qm_m k with
    | none => none
    | some r => match r.2.2.2.2.2.2[pc]? with
      | some (some e) => match qm_x r.2.2.2.2.2.1 e pc ls st h with
        | none => none
        | some (.inl (pc', ls', st', h')) => qm_run f d k pc' ls' st' h'
        | some (.inr (.inl v)) => some (v, h)
        | some (.inr (.inr (j, as, rest))) => match d with
          | 0 => none
          | d' + 1 => match qm_m j with
            | none => none
            | some rj => match (if qm_NM ≤ j then (if 8 ≤ d' then qm_p j as h else none) else if qm_cat as ≤ rj.2.2.1 then qm_run f d' j 0 (qm_el rj.2.2.1 as) [] h else none) with
              | none => none
              | some (v, h1) => qm_run f (d' + 1) k (pc + 3) ls (v.toList ++ rest) h1
      | _ => none

/-! THE CONSTRUCTORS: what they do, as lists of ops (written by wip/whole/ctor.py) -/
def e_M : List (Nat × Nat × Nat × Int) → (Nat → Nat → Int) → Nat → Nat → Int
  | [], f => f
  | (0, n, _, _) :: r, f => e_M r (q_zero f n 0)
  | (_, a, i, v) :: r, f => e_M r (q_upd f a i v)
def e_R : List (Nat × Nat × Nat × Nat) → (Nat → Nat → Nat) → Nat → Nat → Nat
  | [], f => f
  | (0, n, _, _) :: r, f => e_R r (q_zero f n 1000)
  | (1, a, i, v) :: r, f => e_R r (q_upd f a i v)
  | (_, n, k, _) :: r, f => e_R r (q_row f n k)
theorem z_C_of_run {j : Nat} {as : List q_V} {S : q_S} {Q : q_V → q_S → Prop} (n : Nat) (v : q_V) (S' : q_S) (h : q_run q_P n j 0 (q_pad (q_args as) (q_P j).2) [] S = some (v, S')) (hq : Q v S') : z_C j as S Q := ⟨n, v, S', h, hq⟩
def e_H (n : Nat) : List (Nat × Nat) := q_sh0.take n
-- 0: Stock.<init>
set_option maxRecDepth 100000 in
theorem e_k0 (m : z_M) (r : Nat → Nat → Nat) : q_run q_P 200 1 0 (q_pad (q_args [.inr (.inr 1)]) 1) [] (m, r, e_H 2, 26) = some (q_dead, (e_M [(1, 1, 0, 1), (0, 2, 0, 0), (0, 3, 0, 0), (0, 4, 0, 0), (0, 5, 0, 0), (0, 6, 0, 0), (0, 13, 0, 0), (0, 14, 0, 0)] m, e_R [(0, 2, 0, 0), (1, 1, 2, 2), (0, 3, 0, 0), (1, 1, 4, 3), (0, 4, 0, 0), (1, 1, 5, 4), (0, 5, 0, 0), (1, 1, 6, 5), (0, 6, 0, 0), (2, 6, 6, 0), (1, 1, 7, 6), (0, 13, 0, 0), (1, 1, 9, 13), (0, 14, 0, 0), (1, 1, 10, 14)] r, e_H 15, 142)) := rfl
-- 1: Stock.<init>
set_option maxRecDepth 100000 in
theorem e_k1 (m : z_M) (r : Nat → Nat → Nat) : q_run q_P 200 1 0 (q_pad (q_args [.inr (.inr 15)]) 1) [] (m, r, e_H 16, 153) = some (q_dead, (e_M [(1, 15, 0, 1), (0, 16, 0, 0), (0, 17, 0, 0), (0, 18, 0, 0), (0, 19, 0, 0), (0, 20, 0, 0), (0, 27, 0, 0), (0, 28, 0, 0)] m, e_R [(0, 16, 0, 0), (1, 15, 2, 16), (0, 17, 0, 0), (1, 15, 4, 17), (0, 18, 0, 0), (1, 15, 5, 18), (0, 19, 0, 0), (1, 15, 6, 19), (0, 20, 0, 0), (2, 20, 6, 0), (1, 15, 7, 20), (0, 27, 0, 0), (1, 15, 9, 27), (0, 28, 0, 0), (1, 15, 10, 28)] r, e_H 29, 269)) := rfl
-- 2: Field.<init>
set_option maxRecDepth 100000 in
theorem e_k2 (m : z_M) (r : Nat → Nat → Nat) : q_run q_P 200 2 0 (q_pad (q_args [.inr (.inr 29)]) 1) [] (m, r, e_H 30, 272) = some (q_dead, (e_M [(0, 30, 0, 0), (0, 62, 0, 0)] m, e_R [(0, 30, 0, 0), (2, 30, 31, 0), (1, 29, 1, 30), (0, 62, 0, 0), (1, 29, 2, 62)] r, e_H 63, 737)) := rfl
-- 3: Exponents.<init>
set_option maxRecDepth 100000 in
theorem e_k3 (m : z_M) (r : Nat → Nat → Nat) : q_run q_P 200 3 0 (q_pad (q_args [.inr (.inr 63)]) 1) [] (m, r, e_H 64, 739) = some (q_dead, (e_M [(0, 64, 0, 0)] m, e_R [(0, 64, 0, 0), (1, 63, 0, 64)] r, e_H 65, 745)) := rfl
-- 4: Exponents.<init>
set_option maxRecDepth 100000 in
theorem e_k4 (m : z_M) (r : Nat → Nat → Nat) : q_run q_P 200 3 0 (q_pad (q_args [.inr (.inr 66)]) 1) [] (m, r, e_H 67, 753) = some (q_dead, (e_M [(0, 67, 0, 0)] m, e_R [(0, 67, 0, 0), (1, 66, 0, 67)] r, e_H 68, 759)) := rfl
-- 5: Terms.<init>
set_option maxRecDepth 100000 in
theorem e_k5 (m : z_M) (r : Nat → Nat → Nat) : q_run q_P 200 4 0 (q_pad (q_args [.inr (.inr 65), .inr (.inr 29)]) 2) [] (m, r, e_H 66, 751) = some (q_dead, (e_M [(0, 66, 0, 0), (0, 67, 0, 0), (0, 68, 0, 0), (0, 69, 0, 0)] m, e_R [(1, 65, 0, 29), (0, 66, 0, 0), (0, 67, 0, 0), (1, 66, 0, 67), (1, 65, 1, 66), (0, 68, 0, 0), (1, 65, 2, 68), (0, 69, 0, 0), (1, 65, 3, 69)] r, e_H 70, 771)) := rfl
-- 6: Lowered.<init>
set_option maxRecDepth 100000 in
theorem e_k6 (m : z_M) (r : Nat → Nat → Nat) : q_run q_P 200 5 0 (q_pad (q_args [.inr (.inr 70), .inr (.inr 29)]) 2) [] (m, r, e_H 71, 778) = some (q_dead, (e_M [(0, 71, 0, 0), (0, 72, 0, 0), (0, 73, 0, 0), (0, 74, 0, 0)] m, e_R [(1, 70, 0, 29), (0, 71, 0, 0), (1, 70, 2, 71), (0, 72, 0, 0), (1, 70, 3, 72), (0, 73, 0, 0), (1, 70, 4, 73), (0, 74, 0, 0), (1, 70, 5, 74)] r, e_H 75, 830)) := rfl
-- 7: Matrix.<init>
set_option maxRecDepth 100000 in
theorem e_k7 (m : z_M) (r : Nat → Nat → Nat) : q_run q_P 200 6 0 (q_pad (q_args [.inr (.inr 75), .inr (.inr 29)]) 2) [] (m, r, e_H 76, 833) = some (q_dead, (e_M [(0, 76, 0, 0)] m, e_R [(1, 75, 0, 29), (0, 76, 0, 0), (2, 76, 23, 0), (1, 75, 1, 76)] r, e_H 100, 1385)) := rfl
-- 8: Form.<init>
set_option maxRecDepth 100000 in
theorem e_k8 (m : z_M) (r : Nat → Nat → Nat) : q_run q_P 200 7 0 (q_pad (q_args [.inr (.inr 100), .inr (.inr 29)]) 2) [] (m, r, e_H 101, 1390) = some (q_dead, (e_M [(0, 101, 0, 0), (0, 108, 0, 0)] m, e_R [(1, 100, 0, 29), (0, 101, 0, 0), (2, 101, 6, 0), (1, 100, 1, 101), (0, 108, 0, 0), (1, 100, 2, 108)] r, e_H 109, 1432)) := rfl
-- 9: Steps.<init>
set_option maxRecDepth 100000 in
theorem e_k9 (m : z_M) (r : Nat → Nat → Nat) : q_run q_P 200 8 0 (q_pad (q_args [.inr (.inr 109)]) 1) [] (m, r, e_H 110, 1437) = some (q_dead, (e_M [(0, 110, 0, 0), (0, 111, 0, 0), (0, 112, 0, 0), (0, 113, 0, 0)] m, e_R [(0, 110, 0, 0), (1, 109, 1, 110), (0, 111, 0, 0), (1, 109, 2, 111), (0, 112, 0, 0), (1, 109, 3, 112), (0, 113, 0, 0), (1, 109, 4, 113)] r, e_H 114, 1469)) := rfl
-- 10: java/util/Arrays.fill
set_option maxRecDepth 100000 in
theorem e_k10 (m : z_M) (r : Nat → Nat → Nat) : q_run q_P 200 10 0 (q_pad (q_args [.inr (.inr 120), .inl (-1)]) 4) [] (m, r, e_H 121, 1559) = some (q_dead, (e_M [(1, 120, 0, -1), (1, 120, 1, -1), (1, 120, 2, -1), (1, 120, 3, -1)] m, e_R [] r, e_H 121, 1559)) := rfl
-- 12: SetUp.<init>
set_option maxRecDepth 100000 in
theorem e_k12 (m : z_M) (r : Nat → Nat → Nat) : q_run q_P 200 11 0 (q_pad (q_args [.inr (.inr 121)]) 1) [] (m, r, e_H 122, 1564) = some (q_dead, (e_M [(0, 122, 0, 0), (0, 123, 0, 0), (0, 124, 0, 0)] m, e_R [(0, 122, 0, 0), (1, 121, 0, 122), (0, 123, 0, 0), (1, 121, 3, 123), (0, 124, 0, 0), (1, 121, 4, 124)] r, e_H 125, 1664)) := rfl
-- 13: java/lang/AbstractStringBuilder.<init>
set_option maxRecDepth 100000 in
theorem e_k13 (m : z_M) (r : Nat → Nat → Nat) : q_run q_P 200 13 0 (q_pad (q_args [.inr (.inr 125), .inl (16)]) 2) [] (m, r, e_H 126, 1668) = some (q_dead, (e_M [(0, 126, 0, 0), (1, 125, 1, 0)] m, e_R [(0, 126, 0, 0), (1, 125, 0, 126)] r, e_H 127, 1684)) := rfl
-- 14: java/lang/StringBuilder.<init>
set_option maxRecDepth 100000 in
theorem e_k14 (m : z_M) (r : Nat → Nat → Nat) : q_run q_P 200 12 0 (q_pad (q_args [.inr (.inr 125)]) 1) [] (m, r, e_H 126, 1668) = some (q_dead, (e_M [(0, 126, 0, 0), (1, 125, 1, 0)] m, e_R [(0, 126, 0, 0), (1, 125, 0, 126)] r, e_H 127, 1684)) := rfl
-- 15: Failures.<init>
set_option maxRecDepth 100000 in
theorem e_k15 (m : z_M) (r : Nat → Nat → Nat) : q_run q_P 200 14 0 (q_pad (q_args [.inr (.inr 127)]) 1) [] (m, r, e_H 128, 1687) = some (q_dead, (e_M [(0, 128, 0, 0), (0, 129, 0, 0)] m, e_R [(0, 128, 0, 0), (1, 127, 1, 128), (0, 129, 0, 0), (1, 127, 2, 129)] r, e_H 130, 1693)) := rfl

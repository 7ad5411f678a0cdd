/-! Calls as runs. -/
theorem E0 {o0 : Nat} {hp : pH} : cl pg 0 [.ref o0] hp = dn pg 0 0 [some (.ref o0)] [] hp := rfl
theorem E1 {o0 : Nat} {hp : pH} : cl pg 1 [.ref o0] hp = dn pg 1 0 [some (.ref o0)] [] hp := rfl
theorem E2 {o0 : Nat} {hp : pH} : cl pg 2 [.ref o0] hp = dn pg 2 0 [some (.ref o0), none] [] hp := rfl
theorem E3 {o0 : Nat} {hp : pH} : cl pg 3 [.ref o0] hp = dn pg 3 0 [some (.ref o0), none] [] hp := rfl
theorem E4 {o0 : Nat} {hp : pH} : cl pg 4 [.ref o0] hp = dn pg 4 0 [some (.ref o0)] [] hp := rfl
theorem E5 {o0 : Nat} {hp : pH} : cl pg 5 [.ref o0] hp = dn pg 5 0 [some (.ref o0)] [] hp := rfl
theorem E6 {o0 : Nat} {hp : pH} : cl pg 6 [.ref o0] hp = dn pg 6 0 [some (.ref o0)] [] hp := rfl
theorem E7 {o0 : Nat} {hp : pH} : cl pg 7 [.ref o0] hp = dn pg 7 0 [some (.ref o0)] [] hp := rfl
theorem E8 {o0 : Nat} {hp : pH} : cl pg 8 [.ref o0] hp = dn pg 8 0 [some (.ref o0)] [] hp := rfl
theorem E9 {o0 : Nat} {x1 : Int32} {x2 : Int32} {x3 : Int32} {x4 : Int32} {x5 : Int32} {hp : pH} : cl pg 9 [.ref o0, .int x1, .int x2, .int x3, .int x4, .int x5] hp = dn pg 9 0 [some (.ref o0), some (.int x1), some (.int x2), some (.int x3), some (.int x4), some (.int x5), none] [] hp := rfl
theorem E10 {x0 : Int32} {hp : pH} : cl pg 10 [.int x0] hp = dn pg 10 0 [some (.int x0)] [] hp := rfl
theorem E11 {x0 : Int32} {x1 : Int32} {x2 : Int32} {hp : pH} : cl pg 11 [.int x0, .int x1, .int x2] hp = dn pg 11 0 [some (.int x0), some (.int x1), some (.int x2)] [] hp := rfl
theorem E12 {o0 : Nat} {x1 : Int32} {hp : pH} : cl pg 12 [.ref o0, .int x1] hp = dn pg 12 0 [some (.ref o0), some (.int x1)] [] hp := rfl
theorem E13 {o0 : Nat} {x1 : Int32} {x2 : Int32} {x3 : Int32} {x4 : Int32} {x5 : Int32} {hp : pH} : cl pg 13 [.ref o0, .int x1, .int x2, .int x3, .int x4, .int x5] hp = dn pg 13 0 [some (.ref o0), some (.int x1), some (.int x2), some (.int x3), some (.int x4), some (.int x5)] [] hp := rfl
theorem E14 {o0 : Nat} {x1 : Int32} {x2 : Int32} {hp : pH} : cl pg 14 [.ref o0, .int x1, .int x2] hp = dn pg 14 0 [some (.ref o0), some (.int x1), some (.int x2)] [] hp := rfl
theorem E15 {o0 : Nat} {x1 : Int32} {x2 : Int32} {x3 : Int32} {hp : pH} : cl pg 15 [.ref o0, .int x1, .int x2, .int x3] hp = dn pg 15 0 [some (.ref o0), some (.int x1), some (.int x2), some (.int x3)] [] hp := rfl
theorem E16 {o0 : Nat} {x1 : Int32} {x2 : Int32} {x3 : Int32} {hp : pH} : cl pg 16 [.ref o0, .int x1, .int x2, .int x3] hp = dn pg 16 0 [some (.ref o0), some (.int x1), some (.int x2), some (.int x3)] [] hp := rfl
theorem E17 {o0 : Nat} {hp : pH} : cl pg 17 [.ref o0] hp = dn pg 17 0 [some (.ref o0), none, none] [] hp := rfl
theorem E18 {x0 : Int32} {hp : pH} : cl pg 18 [.int x0] hp = dn pg 18 0 [some (.int x0)] [] hp := rfl
theorem E19 {o0 : Nat} {x1 : Int32} {hp : pH} : cl pg 19 [.ref o0, .int x1] hp = dn pg 19 0 [some (.ref o0), some (.int x1), none] [] hp := rfl
theorem E20 {o0 : Nat} {x1 : Int32} {x2 : Int32} {x3 : Int32} {hp : pH} : cl pg 20 [.ref o0, .int x1, .int x2, .int x3] hp = dn pg 20 0 [some (.ref o0), some (.int x1), some (.int x2), some (.int x3), none] [] hp := rfl
theorem E21 {o0 : Nat} {x1 : Int32} {hp : pH} : cl pg 21 [.ref o0, .int x1] hp = dn pg 21 0 [some (.ref o0), some (.int x1)] [] hp := rfl
theorem E22 {o0 : Nat} {x1 : Int32} {hp : pH} : cl pg 22 [.ref o0, .int x1] hp = dn pg 22 0 [some (.ref o0), some (.int x1)] [] hp := rfl
theorem E23 {o0 : Nat} {x1 : Int32} {x2 : Int32} {x3 : Int32} {hp : pH} : cl pg 23 [.ref o0, .int x1, .int x2, .int x3] hp = dn pg 23 0 [some (.ref o0), some (.int x1), some (.int x2), some (.int x3)] [] hp := rfl
theorem E24 {o0 : Nat} {x1 : Int32} {hp : pH} : cl pg 24 [.ref o0, .int x1] hp = dn pg 24 0 [some (.ref o0), some (.int x1)] [] hp := rfl
theorem E25 {o0 : Nat} {x1 : Int32} {hp : pH} : cl pg 25 [.ref o0, .int x1] hp = dn pg 25 0 [some (.ref o0), some (.int x1)] [] hp := rfl
theorem E26 {o0 : Nat} {hp : pH} : cl pg 26 [.ref o0] hp = dn pg 26 0 [some (.ref o0), none] [] hp := rfl
theorem E27 {o0 : Nat} {hp : pH} : cl pg 27 [.ref o0] hp = dn pg 27 0 [some (.ref o0)] [] hp := rfl
theorem E28 {o0 : Nat} {hp : pH} : cl pg 28 [.ref o0] hp = dn pg 28 0 [some (.ref o0)] [] hp := rfl
theorem E29 {o0 : Nat} {hp : pH} : cl pg 29 [.ref o0] hp = dn pg 29 0 [some (.ref o0), none, none] [] hp := rfl
theorem E30 {o0 : Nat} {x1 : Int32} {x2 : Int32} {hp : pH} : cl pg 30 [.ref o0, .int x1, .int x2] hp = dn pg 30 0 [some (.ref o0), some (.int x1), some (.int x2)] [] hp := rfl
theorem E31 {o0 : Nat} {x1 : Int32} {hp : pH} : cl pg 31 [.ref o0, .int x1] hp = dn pg 31 0 [some (.ref o0), some (.int x1)] [] hp := rfl
theorem E32 {o0 : Nat} {hp : pH} : cl pg 32 [.ref o0] hp = dn pg 32 0 [some (.ref o0)] [] hp := rfl
theorem E33 {o0 : Nat} {x1 : Int32} {hp : pH} : cl pg 33 [.ref o0, .int x1] hp = dn pg 33 0 [some (.ref o0), some (.int x1), none] [] hp := rfl
theorem E34 {x0 : Int32} {hp : pH} : cl pg 34 [.int x0] hp = dn pg 34 0 [some (.int x0)] [] hp := rfl
theorem E35 {o0 : Nat} {x1 : Int32} {hp : pH} : cl pg 35 [.ref o0, .int x1] hp = dn pg 35 0 [some (.ref o0), some (.int x1), none] [] hp := rfl
theorem E36 {o0 : Nat} {x1 : Int32} {hp : pH} : cl pg 36 [.ref o0, .int x1] hp = dn pg 36 0 [some (.ref o0), some (.int x1)] [] hp := rfl
theorem E37 {o0 : Nat} {o1 : Nat} {o2 : Nat} {hp : pH} : cl pg 37 [.ref o0, .ref o1, .ref o2] hp = dn pg 37 0 [some (.ref o0), some (.ref o1), some (.ref o2), none, none] [] hp := rfl
theorem E38 {o0 : Nat} {o1 : Nat} {hp : pH} : cl pg 38 [.ref o0, .ref o1] hp = dn pg 38 0 [some (.ref o0), some (.ref o1)] [] hp := rfl
theorem E39 {o0 : Nat} {o1 : Nat} {hp : pH} : cl pg 39 [.ref o0, .ref o1] hp = dn pg 39 0 [some (.ref o0), some (.ref o1), none] [] hp := rfl
theorem E40 {o0 : Nat} {x1 : Int32} {hp : pH} : cl pg 40 [.ref o0, .int x1] hp = dn pg 40 0 [some (.ref o0), some (.int x1)] [] hp := rfl
theorem E41 {o0 : Nat} {x1 : Int32} {hp : pH} : cl pg 41 [.ref o0, .int x1] hp = dn pg 41 0 [some (.ref o0), some (.int x1)] [] hp := rfl
theorem E42 {o0 : Nat} {x1 : Int32} {hp : pH} : cl pg 42 [.ref o0, .int x1] hp = dn pg 42 0 [some (.ref o0), some (.int x1)] [] hp := rfl
theorem E43 {o0 : Nat} {x1 : Int32} {x2 : Int32} {x3 : Int32} {hp : pH} : cl pg 43 [.ref o0, .int x1, .int x2, .int x3] hp = dn pg 43 0 [some (.ref o0), some (.int x1), some (.int x2), some (.int x3)] [] hp := rfl
theorem E44 {o0 : Nat} {x1 : Int32} {hp : pH} : cl pg 44 [.ref o0, .int x1] hp = dn pg 44 0 [some (.ref o0), some (.int x1)] [] hp := rfl
theorem E45 {x0 : Int32} {x1 : Int32} {hp : pH} : cl pg 45 [.int x0, .int x1] hp = dn pg 45 0 [some (.int x0), some (.int x1)] [] hp := rfl
theorem E46 {o0 : Nat} {x1 : Int32} {x2 : Int32} {hp : pH} : cl pg 46 [.ref o0, .int x1, .int x2] hp = dn pg 46 0 [some (.ref o0), some (.int x1), some (.int x2)] [] hp := rfl
theorem E47 {o0 : Nat} {x1 : Int32} {hp : pH} : cl pg 47 [.ref o0, .int x1] hp = dn pg 47 0 [some (.ref o0), some (.int x1)] [] hp := rfl
theorem E48 {o0 : Nat} {x1 : Int32} {hp : pH} : cl pg 48 [.ref o0, .int x1] hp = dn pg 48 0 [some (.ref o0), some (.int x1)] [] hp := rfl
theorem E49 {o0 : Nat} {x1 : Int32} {x2 : Int32} {x3 : Int32} {hp : pH} : cl pg 49 [.ref o0, .int x1, .int x2, .int x3] hp = dn pg 49 0 [some (.ref o0), some (.int x1), some (.int x2), some (.int x3)] [] hp := rfl
theorem E50 {o0 : Nat} {x1 : Int32} {x2 : Int32} {hp : pH} : cl pg 50 [.ref o0, .int x1, .int x2] hp = dn pg 50 0 [some (.ref o0), some (.int x1), some (.int x2)] [] hp := rfl
theorem E51 {o0 : Nat} {x1 : Int32} {x2 : Int32} {hp : pH} : cl pg 51 [.ref o0, .int x1, .int x2] hp = dn pg 51 0 [some (.ref o0), some (.int x1), some (.int x2)] [] hp := rfl
theorem E52 {o0 : Nat} {x1 : Int32} {hp : pH} : cl pg 52 [.ref o0, .int x1] hp = dn pg 52 0 [some (.ref o0), some (.int x1), none] [] hp := rfl
theorem E53 {o0 : Nat} {x1 : Int32} {hp : pH} : cl pg 53 [.ref o0, .int x1] hp = dn pg 53 0 [some (.ref o0), some (.int x1)] [] hp := rfl
theorem E54 {o0 : Nat} {hp : pH} : cl pg 54 [.ref o0] hp = dn pg 54 0 [some (.ref o0), none, none, none, none] [] hp := rfl
theorem E55 {o0 : Nat} {x1 : Int32} {x2 : Int32} {hp : pH} : cl pg 55 [.ref o0, .int x1, .int x2] hp = dn pg 55 0 [some (.ref o0), some (.int x1), some (.int x2)] [] hp := rfl
theorem E56 {x0 : Int32} {hp : pH} : cl pg 56 [.int x0] hp = dn pg 56 0 [some (.int x0), none] [] hp := rfl
theorem E57 {o0 : Nat} {x1 : Int32} {x2 : Int32} {hp : pH} : cl pg 57 [.ref o0, .int x1, .int x2] hp = dn pg 57 0 [some (.ref o0), some (.int x1), some (.int x2), none] [] hp := rfl
theorem E58 {o0 : Nat} {x1 : Int32} {hp : pH} : cl pg 58 [.ref o0, .int x1] hp = dn pg 58 0 [some (.ref o0), some (.int x1), none] [] hp := rfl
theorem E59 {o0 : Nat} {x1 : Int32} {hp : pH} : cl pg 59 [.ref o0, .int x1] hp = dn pg 59 0 [some (.ref o0), some (.int x1), none, none] [] hp := rfl
theorem E60 {o0 : Nat} {x1 : Int32} {hp : pH} : cl pg 60 [.ref o0, .int x1] hp = dn pg 60 0 [some (.ref o0), some (.int x1), none] [] hp := rfl
theorem E61 {o0 : Nat} {hp : pH} : cl pg 61 [.ref o0] hp = dn pg 61 0 [some (.ref o0), none, none] [] hp := rfl
theorem E62 {o0 : Nat} {x1 : Int32} {x2 : Int32} {hp : pH} : cl pg 62 [.ref o0, .int x1, .int x2] hp = dn pg 62 0 [some (.ref o0), some (.int x1), some (.int x2)] [] hp := rfl
theorem E63 {o0 : Nat} {x1 : Int32} {x2 : Int32} {x3 : Int32} {hp : pH} : cl pg 63 [.ref o0, .int x1, .int x2, .int x3] hp = dn pg 63 0 [some (.ref o0), some (.int x1), some (.int x2), some (.int x3), none, none, none, none] [] hp := rfl
theorem E64 {o0 : Nat} {x1 : Int32} {hp : pH} : cl pg 64 [.ref o0, .int x1] hp = dn pg 64 0 [some (.ref o0), some (.int x1), none] [] hp := rfl
theorem E65 {o0 : Nat} {hp : pH} : cl pg 65 [.ref o0] hp = dn pg 65 0 [some (.ref o0), none, none, none, none] [] hp := rfl
theorem E66 {o0 : Nat} {hp : pH} : cl pg 66 [.ref o0] hp = dn pg 66 0 [some (.ref o0), none, none, none] [] hp := rfl
theorem E67 {o0 : Nat} {x1 : Int32} {hp : pH} : cl pg 67 [.ref o0, .int x1] hp = dn pg 67 0 [some (.ref o0), some (.int x1), none, none, none] [] hp := rfl
theorem E68 {o0 : Nat} {x1 : Int32} {hp : pH} : cl pg 68 [.ref o0, .int x1] hp = dn pg 68 0 [some (.ref o0), some (.int x1), none] [] hp := rfl
theorem E69 {o0 : Nat} {hp : pH} : cl pg 69 [.ref o0] hp = dn pg 69 0 [some (.ref o0), none, none] [] hp := rfl
theorem E70 {o0 : Nat} {x1 : Int32} {hp : pH} : cl pg 70 [.ref o0, .int x1] hp = dn pg 70 0 [some (.ref o0), some (.int x1), none] [] hp := rfl
theorem E71 {o0 : Nat} {x1 : Int32} {x2 : Int32} {hp : pH} : cl pg 71 [.ref o0, .int x1, .int x2] hp = dn pg 71 0 [some (.ref o0), some (.int x1), some (.int x2), none, none] [] hp := rfl
theorem E72 {o0 : Nat} {x1 : Int32} {x2 : Int32} {x3 : Int32} {x4 : Int32} {x5 : Int32} {hp : pH} : cl pg 72 [.ref o0, .int x1, .int x2, .int x3, .int x4, .int x5] hp = dn pg 72 0 [some (.ref o0), some (.int x1), some (.int x2), some (.int x3), some (.int x4), some (.int x5)] [] hp := rfl
theorem E73 {o0 : Nat} {x1 : Int32} {x2 : Int32} {x3 : Int32} {hp : pH} : cl pg 73 [.ref o0, .int x1, .int x2, .int x3] hp = dn pg 73 0 [some (.ref o0), some (.int x1), some (.int x2), some (.int x3)] [] hp := rfl
theorem E74 {o0 : Nat} {x1 : Int32} {hp : pH} : cl pg 74 [.ref o0, .int x1] hp = dn pg 74 0 [some (.ref o0), some (.int x1)] [] hp := rfl
theorem E75 {o0 : Nat} {x1 : Int32} {hp : pH} : cl pg 75 [.ref o0, .int x1] hp = dn pg 75 0 [some (.ref o0), some (.int x1), none, none, none, none, none, none] [] hp := rfl
theorem E76 {o0 : Nat} {x1 : Int32} {hp : pH} : cl pg 76 [.ref o0, .int x1] hp = dn pg 76 0 [some (.ref o0), some (.int x1), none, none, none, none, none] [] hp := rfl
theorem E77 {o0 : Nat} {hp : pH} : cl pg 77 [.ref o0] hp = dn pg 77 0 [some (.ref o0), none] [] hp := rfl
theorem E78 {o0 : Nat} {hp : pH} : cl pg 78 [.ref o0] hp = dn pg 78 0 [some (.ref o0), none] [] hp := rfl
theorem E79 {o0 : Nat} {x1 : Int32} {x2 : Int32} {hp : pH} : cl pg 79 [.ref o0, .int x1, .int x2] hp = dn pg 79 0 [some (.ref o0), some (.int x1), some (.int x2)] [] hp := rfl
theorem E80 {o0 : Nat} {x1 : Int32} {x2 : Int32} {hp : pH} : cl pg 80 [.ref o0, .int x1, .int x2] hp = dn pg 80 0 [some (.ref o0), some (.int x1), some (.int x2)] [] hp := rfl
theorem E81 {o0 : Nat} {hp : pH} : cl pg 81 [.ref o0] hp = dn pg 81 0 [some (.ref o0), none] [] hp := rfl
theorem E82 {o0 : Nat} {hp : pH} : cl pg 82 [.ref o0] hp = dn pg 82 0 [some (.ref o0)] [] hp := rfl
theorem E83 {o0 : Nat} {x1 : Int32} {hp : pH} : cl pg 83 [.ref o0, .int x1] hp = dn pg 83 0 [some (.ref o0), some (.int x1)] [] hp := rfl
theorem E84 {o0 : Nat} {o1 : Nat} {hp : pH} : cl pg 84 [.ref o0, .ref o1] hp = dn pg 84 0 [some (.ref o0), some (.ref o1), none, none, none] [] hp := rfl
theorem E85 {o0 : Nat} {x1 : Int32} {o2 : Nat} {hp : pH} : cl pg 85 [.ref o0, .int x1, .ref o2] hp = dn pg 85 0 [some (.ref o0), some (.int x1), some (.ref o2)] [] hp := rfl
theorem E86 {o0 : Nat} {x1 : Int32} {hp : pH} : cl pg 86 [.ref o0, .int x1] hp = dn pg 86 0 [some (.ref o0), some (.int x1), none] [] hp := rfl
theorem E87 {x0 : Int32} {x1 : Int32} {hp : pH} : cl pg 87 [.int x0, .int x1] hp = dn pg 87 0 [some (.int x0), some (.int x1), none] [] hp := rfl
theorem E88 {o0 : Nat} {x1 : Int32} {hp : pH} : cl pg 88 [.ref o0, .int x1] hp = dn pg 88 0 [some (.ref o0), some (.int x1)] [] hp := rfl
theorem E89 {o0 : Nat} {x1 : Int32} {hp : pH} : cl pg 89 [.ref o0, .int x1] hp = dn pg 89 0 [some (.ref o0), some (.int x1), none] [] hp := rfl
theorem E90 {o0 : Nat} {hp : pH} : cl pg 90 [.ref o0] hp = dn pg 90 0 [some (.ref o0), none, none, none, none] [] hp := rfl
theorem E91 {o0 : Nat} {x1 : Int32} {hp : pH} : cl pg 91 [.ref o0, .int x1] hp = dn pg 91 0 [some (.ref o0), some (.int x1), none, none] [] hp := rfl
theorem E92 {o0 : Nat} {x1 : Int32} {hp : pH} : cl pg 92 [.ref o0, .int x1] hp = dn pg 92 0 [some (.ref o0), some (.int x1), none] [] hp := rfl
theorem E93 {x0 : Int32} {hp : pH} : cl pg 93 [.int x0] hp = dn pg 93 0 [some (.int x0), none, none, none, none] [] hp := rfl
theorem E94 {o0 : Nat} {x1 : Int32} {x2 : Int32} {x3 : Int32} {x4 : Int32} {hp : pH} : cl pg 94 [.ref o0, .int x1, .int x2, .int x3, .int x4] hp = dn pg 94 0 [some (.ref o0), some (.int x1), some (.int x2), some (.int x3), some (.int x4), none, none] [] hp := rfl
theorem E95 {x0 : Int32} {x1 : Int32} {x2 : Int32} {hp : pH} : cl pg 95 [.int x0, .int x1, .int x2] hp = dn pg 95 0 [some (.int x0), some (.int x1), some (.int x2), none, none] [] hp := rfl
theorem E96 {o0 : Nat} {x1 : Int32} {x2 : Int32} {x3 : Int32} {hp : pH} : cl pg 96 [.ref o0, .int x1, .int x2, .int x3] hp = dn pg 96 0 [some (.ref o0), some (.int x1), some (.int x2), some (.int x3), none, none] [] hp := rfl
theorem E97 {o0 : Nat} {x1 : Int32} {hp : pH} : cl pg 97 [.ref o0, .int x1] hp = dn pg 97 0 [some (.ref o0), some (.int x1), none, none, none, none] [] hp := rfl
theorem E98 {o0 : Nat} {x1 : Int32} {hp : pH} : cl pg 98 [.ref o0, .int x1] hp = dn pg 98 0 [some (.ref o0), some (.int x1), none] [] hp := rfl
theorem E99 {o0 : Nat} {o1 : Nat} {hp : pH} : cl pg 99 [.ref o0, .ref o1] hp = dn pg 99 0 [some (.ref o0), some (.ref o1)] [] hp := rfl
theorem E100 {o0 : Nat} {o1 : Nat} {hp : pH} : cl pg 100 [.ref o0, .ref o1] hp = dn pg 100 0 [some (.ref o0), some (.ref o1), none] [] hp := rfl
theorem E101 {o0 : Nat} {o1 : Nat} {hp : pH} : cl pg 101 [.ref o0, .ref o1] hp = dn pg 101 0 [some (.ref o0), some (.ref o1), none] [] hp := rfl
theorem E102 {o0 : Nat} {x1 : Int32} {hp : pH} : cl pg 102 [.ref o0, .int x1] hp = dn pg 102 0 [some (.ref o0), some (.int x1), none] [] hp := rfl
theorem E103 {o0 : Nat} {x1 : Int32} {hp : pH} : cl pg 103 [.ref o0, .int x1] hp = dn pg 103 0 [some (.ref o0), some (.int x1)] [] hp := rfl
theorem E104 {o0 : Nat} {x1 : Int32} {x2 : Int32} {hp : pH} : cl pg 104 [.ref o0, .int x1, .int x2] hp = dn pg 104 0 [some (.ref o0), some (.int x1), some (.int x2)] [] hp := rfl
theorem E105 {o0 : Nat} {x1 : Int32} {hp : pH} : cl pg 105 [.ref o0, .int x1] hp = dn pg 105 0 [some (.ref o0), some (.int x1)] [] hp := rfl
theorem E106 {o0 : Nat} {hp : pH} : cl pg 106 [.ref o0] hp = dn pg 106 0 [some (.ref o0), none] [] hp := rfl
theorem E107 {o0 : Nat} {x1 : Int32} {x2 : Int32} {x3 : Int32} {x4 : Int32} {x5 : Int32} {hp : pH} : cl pg 107 [.ref o0, .int x1, .int x2, .int x3, .int x4, .int x5] hp = dn pg 107 0 [some (.ref o0), some (.int x1), some (.int x2), some (.int x3), some (.int x4), some (.int x5), none] [] hp := rfl
theorem E108 {x0 : Int32} {hp : pH} : cl pg 108 [.int x0] hp = dn pg 108 0 [some (.int x0)] [] hp := rfl
theorem E109 {l0 : Int64} {l1 : Int64} {l2 : Int64} {hp : pH} : cl pg 109 [.long l0, .long l1, .long l2] hp = dn pg 109 0 [some (.long l0), none, some (.long l1), none, some (.long l2), none] [] hp := rfl
theorem E110 {x0 : Int32} {x1 : Int32} {x2 : Int32} {hp : pH} : cl pg 110 [.int x0, .int x1, .int x2] hp = dn pg 110 0 [some (.int x0), some (.int x1), some (.int x2)] [] hp := rfl
theorem E111 {o0 : Nat} {x1 : Int32} {x2 : Int32} {x3 : Int32} {hp : pH} : cl pg 111 [.ref o0, .int x1, .int x2, .int x3] hp = dn pg 111 0 [some (.ref o0), some (.int x1), some (.int x2), some (.int x3)] [] hp := rfl
theorem E112 {o0 : Nat} {x1 : Int32} {x2 : Int32} {x3 : Int32} {hp : pH} : cl pg 112 [.ref o0, .int x1, .int x2, .int x3] hp = dn pg 112 0 [some (.ref o0), some (.int x1), some (.int x2), some (.int x3)] [] hp := rfl
theorem E113 {o0 : Nat} {hp : pH} : cl pg 113 [.ref o0] hp = dn pg 113 0 [some (.ref o0), none, none] [] hp := rfl
theorem E114 {x0 : Int32} {hp : pH} : cl pg 114 [.int x0] hp = dn pg 114 0 [some (.int x0), none, none] [] hp := rfl
theorem E115 {o0 : Nat} {x1 : Int32} {hp : pH} : cl pg 115 [.ref o0, .int x1] hp = dn pg 115 0 [some (.ref o0), some (.int x1), none] [] hp := rfl
theorem E116 {o0 : Nat} {x1 : Int32} {x2 : Int32} {x3 : Int32} {hp : pH} : cl pg 116 [.ref o0, .int x1, .int x2, .int x3] hp = dn pg 116 0 [some (.ref o0), some (.int x1), some (.int x2), some (.int x3), none] [] hp := rfl
theorem E117 {o0 : Nat} {x1 : Int32} {hp : pH} : cl pg 117 [.ref o0, .int x1] hp = dn pg 117 0 [some (.ref o0), some (.int x1)] [] hp := rfl
theorem E118 {o0 : Nat} {hp : pH} : cl pg 118 [.ref o0] hp = dn pg 118 0 [some (.ref o0), none] [] hp := rfl
theorem E119 {o0 : Nat} {hp : pH} : cl pg 119 [.ref o0] hp = dn pg 119 0 [some (.ref o0), none, none] [] hp := rfl
theorem E120 {o0 : Nat} {x1 : Int32} {x2 : Int32} {hp : pH} : cl pg 120 [.ref o0, .int x1, .int x2] hp = dn pg 120 0 [some (.ref o0), some (.int x1), some (.int x2)] [] hp := rfl
theorem E121 {o0 : Nat} {x1 : Int32} {hp : pH} : cl pg 121 [.ref o0, .int x1] hp = dn pg 121 0 [some (.ref o0), some (.int x1)] [] hp := rfl
theorem E122 {x0 : Int32} {hp : pH} : cl pg 122 [.int x0] hp = dn pg 122 0 [some (.int x0)] [] hp := rfl
theorem E123 {o0 : Nat} {x1 : Int32} {x2 : Int32} {hp : pH} : cl pg 123 [.ref o0, .int x1, .int x2] hp = dn pg 123 0 [some (.ref o0), some (.int x1), some (.int x2)] [] hp := rfl
theorem E124 {o0 : Nat} {x1 : Int32} {hp : pH} : cl pg 124 [.ref o0, .int x1] hp = dn pg 124 0 [some (.ref o0), some (.int x1)] [] hp := rfl
theorem E125 {o0 : Nat} {x1 : Int32} {hp : pH} : cl pg 125 [.ref o0, .int x1] hp = dn pg 125 0 [some (.ref o0), some (.int x1), none] [] hp := rfl
theorem E126 {o0 : Nat} {hp : pH} : cl pg 126 [.ref o0] hp = dn pg 126 0 [some (.ref o0)] [] hp := rfl
theorem E127 {o0 : Nat} {hp : pH} : cl pg 127 [.ref o0] hp = dn pg 127 0 [some (.ref o0), none] [] hp := rfl
theorem E128 {o0 : Nat} {hp : pH} : cl pg 128 [.ref o0] hp = dn pg 128 0 [some (.ref o0), none, none] [] hp := rfl
theorem E129 {o0 : Nat} {x1 : Int32} {x2 : Int32} {x3 : Int32} {hp : pH} : cl pg 129 [.ref o0, .int x1, .int x2, .int x3] hp = dn pg 129 0 [some (.ref o0), some (.int x1), some (.int x2), some (.int x3)] [] hp := rfl
theorem E130 {x0 : Int32} {x1 : Int32} {hp : pH} : cl pg 130 [.int x0, .int x1] hp = dn pg 130 0 [some (.int x0), some (.int x1)] [] hp := rfl
theorem E131 {o0 : Nat} {x1 : Int32} {x2 : Int32} {hp : pH} : cl pg 131 [.ref o0, .int x1, .int x2] hp = dn pg 131 0 [some (.ref o0), some (.int x1), some (.int x2), none] [] hp := rfl
theorem E132 {o0 : Nat} {x1 : Int32} {hp : pH} : cl pg 132 [.ref o0, .int x1] hp = dn pg 132 0 [some (.ref o0), some (.int x1), none, none] [] hp := rfl
theorem E133 {o0 : Nat} {x1 : Int32} {x2 : Int32} {x3 : Int32} {hp : pH} : cl pg 133 [.ref o0, .int x1, .int x2, .int x3] hp = dn pg 133 0 [some (.ref o0), some (.int x1), some (.int x2), some (.int x3)] [] hp := rfl
theorem E134 {o0 : Nat} {x1 : Int32} {x2 : Int32} {hp : pH} : cl pg 134 [.ref o0, .int x1, .int x2] hp = dn pg 134 0 [some (.ref o0), some (.int x1), some (.int x2)] [] hp := rfl
theorem E135 {o0 : Nat} {x1 : Int32} {hp : pH} : cl pg 135 [.ref o0, .int x1] hp = dn pg 135 0 [some (.ref o0), some (.int x1)] [] hp := rfl
theorem E136 {o0 : Nat} {x1 : Int32} {hp : pH} : cl pg 136 [.ref o0, .int x1] hp = dn pg 136 0 [some (.ref o0), some (.int x1), none, none] [] hp := rfl
theorem E137 {o0 : Nat} {x1 : Int32} {hp : pH} : cl pg 137 [.ref o0, .int x1] hp = dn pg 137 0 [some (.ref o0), some (.int x1)] [] hp := rfl
theorem E138 {o0 : Nat} {hp : pH} : cl pg 138 [.ref o0] hp = dn pg 138 0 [some (.ref o0), none, none, none, none] [] hp := rfl
theorem E139 {o0 : Nat} {x1 : Int32} {hp : pH} : cl pg 139 [.ref o0, .int x1] hp = dn pg 139 0 [some (.ref o0), some (.int x1), none] [] hp := rfl
theorem E140 {o0 : Nat} {x1 : Int32} {x2 : Int32} {hp : pH} : cl pg 140 [.ref o0, .int x1, .int x2] hp = dn pg 140 0 [some (.ref o0), some (.int x1), some (.int x2), none] [] hp := rfl
theorem E141 {o0 : Nat} {x1 : Int32} {x2 : Int32} {hp : pH} : cl pg 141 [.ref o0, .int x1, .int x2] hp = dn pg 141 0 [some (.ref o0), some (.int x1), some (.int x2)] [] hp := rfl
theorem E142 {o0 : Nat} {x1 : Int32} {hp : pH} : cl pg 142 [.ref o0, .int x1] hp = dn pg 142 0 [some (.ref o0), some (.int x1), none] [] hp := rfl
theorem E143 {o0 : Nat} {x1 : Int32} {hp : pH} : cl pg 143 [.ref o0, .int x1] hp = dn pg 143 0 [some (.ref o0), some (.int x1)] [] hp := rfl
theorem E144 {o0 : Nat} {x1 : Int32} {hp : pH} : cl pg 144 [.ref o0, .int x1] hp = dn pg 144 0 [some (.ref o0), some (.int x1), none, none] [] hp := rfl
theorem E145 {o0 : Nat} {x1 : Int32} {hp : pH} : cl pg 145 [.ref o0, .int x1] hp = dn pg 145 0 [some (.ref o0), some (.int x1), none] [] hp := rfl
theorem E146 {o0 : Nat} {hp : pH} : cl pg 146 [.ref o0] hp = dn pg 146 0 [some (.ref o0), none] [] hp := rfl
theorem E147 {o0 : Nat} {x1 : Int32} {x2 : Int32} {hp : pH} : cl pg 147 [.ref o0, .int x1, .int x2] hp = dn pg 147 0 [some (.ref o0), some (.int x1), some (.int x2)] [] hp := rfl
theorem E148 {o0 : Nat} {x1 : Int32} {x2 : Int32} {x3 : Int32} {hp : pH} : cl pg 148 [.ref o0, .int x1, .int x2, .int x3] hp = dn pg 148 0 [some (.ref o0), some (.int x1), some (.int x2), some (.int x3), none, none, none, none] [] hp := rfl
theorem E149 {o0 : Nat} {x1 : Int32} {hp : pH} : cl pg 149 [.ref o0, .int x1] hp = dn pg 149 0 [some (.ref o0), some (.int x1), none, none] [] hp := rfl
theorem E150 {o0 : Nat} {x1 : Int32} {hp : pH} : cl pg 150 [.ref o0, .int x1] hp = dn pg 150 0 [some (.ref o0), some (.int x1), none, none, none, none, none] [] hp := rfl
theorem E151 {o0 : Nat} {x1 : Int32} {hp : pH} : cl pg 151 [.ref o0, .int x1] hp = dn pg 151 0 [some (.ref o0), some (.int x1), none, none] [] hp := rfl
theorem E152 {o0 : Nat} {x1 : Int32} {hp : pH} : cl pg 152 [.ref o0, .int x1] hp = dn pg 152 0 [some (.ref o0), some (.int x1), none, none, none, none] [] hp := rfl
theorem E153 {o0 : Nat} {x1 : Int32} {hp : pH} : cl pg 153 [.ref o0, .int x1] hp = dn pg 153 0 [some (.ref o0), some (.int x1), none, none] [] hp := rfl
theorem E154 {o0 : Nat} {x1 : Int32} {x2 : Int32} {x3 : Int32} {x4 : Int32} {x5 : Int32} {hp : pH} : cl pg 154 [.ref o0, .int x1, .int x2, .int x3, .int x4, .int x5] hp = dn pg 154 0 [some (.ref o0), some (.int x1), some (.int x2), some (.int x3), some (.int x4), some (.int x5), none] [] hp := rfl
theorem E155 {x0 : Int32} {hp : pH} : cl pg 155 [.int x0] hp = dn pg 155 0 [some (.int x0)] [] hp := rfl
theorem E156 {o0 : Nat} {x1 : Int32} {x2 : Int32} {x3 : Int32} {x4 : Int32} {hp : pH} : cl pg 156 [.ref o0, .int x1, .int x2, .int x3, .int x4] hp = dn pg 156 0 [some (.ref o0), some (.int x1), some (.int x2), some (.int x3), some (.int x4), none, none, none] [] hp := rfl
theorem E157 {o0 : Nat} {x1 : Int32} {x2 : Int32} {hp : pH} : cl pg 157 [.ref o0, .int x1, .int x2] hp = dn pg 157 0 [some (.ref o0), some (.int x1), some (.int x2), none] [] hp := rfl
theorem E158 {x0 : Int32} {x1 : Int32} {hp : pH} : cl pg 158 [.int x0, .int x1] hp = dn pg 158 0 [some (.int x0), some (.int x1), none, none, none] [] hp := rfl
theorem E159 {o0 : Nat} {hp : pH} : cl pg 159 [.ref o0] hp = dn pg 159 0 [some (.ref o0), none, none] [] hp := rfl
theorem E160 {o0 : Nat} {x1 : Int32} {x2 : Int32} {hp : pH} : cl pg 160 [.ref o0, .int x1, .int x2] hp = dn pg 160 0 [some (.ref o0), some (.int x1), some (.int x2)] [] hp := rfl
theorem E161 {o0 : Nat} {hp : pH} : cl pg 161 [.ref o0] hp = dn pg 161 0 [some (.ref o0), none] [] hp := rfl
theorem E162 {o0 : Nat} {x1 : Int32} {hp : pH} : cl pg 162 [.ref o0, .int x1] hp = dn pg 162 0 [some (.ref o0), some (.int x1), none, none] [] hp := rfl
theorem E163 {o0 : Nat} {x1 : Int32} {hp : pH} : cl pg 163 [.ref o0, .int x1] hp = dn pg 163 0 [some (.ref o0), some (.int x1), none, none, none] [] hp := rfl
theorem E164 {x0 : Int32} {x1 : Int32} {hp : pH} : cl pg 164 [.int x0, .int x1] hp = dn pg 164 0 [some (.int x0), some (.int x1)] [] hp := rfl
theorem E165 {o0 : Nat} {x1 : Int32} {hp : pH} : cl pg 165 [.ref o0, .int x1] hp = dn pg 165 0 [some (.ref o0), some (.int x1), none, none, none, none, none, none] [] hp := rfl
theorem E166 {o0 : Nat} {x1 : Int32} {hp : pH} : cl pg 166 [.ref o0, .int x1] hp = dn pg 166 0 [some (.ref o0), some (.int x1), none] [] hp := rfl
theorem E167 {o0 : Nat} {x1 : Int32} {hp : pH} : cl pg 167 [.ref o0, .int x1] hp = dn pg 167 0 [some (.ref o0), some (.int x1), none, none, none] [] hp := rfl
theorem E168 {o0 : Nat} {x1 : Int32} {x2 : Int32} {x3 : Int32} {x4 : Int32} {hp : pH} : cl pg 168 [.ref o0, .int x1, .int x2, .int x3, .int x4] hp = dn pg 168 0 [some (.ref o0), some (.int x1), some (.int x2), some (.int x3), some (.int x4), none, none, none, none] [] hp := rfl
theorem E169 {o0 : Nat} {o1 : Nat} {x2 : Int32} {x3 : Int32} {hp : pH} : cl pg 169 [.ref o0, .ref o1, .int x2, .int x3] hp = dn pg 169 0 [some (.ref o0), some (.ref o1), some (.int x2), some (.int x3)] [] hp := rfl
theorem E170 {l0 : Int64} {l1 : Int64} {x2 : Int32} {hp : pH} : cl pg 170 [.long l0, .long l1, .int x2] hp = dn pg 170 0 [some (.long l0), none, some (.long l1), none, some (.int x2), none, none, none, none, none, none] [] hp := rfl
theorem E171 {o0 : Nat} {x1 : Int32} {x2 : Int32} {x3 : Int32} {hp : pH} : cl pg 171 [.ref o0, .int x1, .int x2, .int x3] hp = dn pg 171 0 [some (.ref o0), some (.int x1), some (.int x2), some (.int x3), none, none, none, none] [] hp := rfl
theorem E172 {x0 : Int32} {hp : pH} : cl pg 172 [.int x0] hp = dn pg 172 0 [some (.int x0)] [] hp := rfl
theorem E173 {o0 : Nat} {x1 : Int32} {hp : pH} : cl pg 173 [.ref o0, .int x1] hp = dn pg 173 0 [some (.ref o0), some (.int x1)] [] hp := rfl
theorem E174 {o0 : Nat} {hp : pH} : cl pg 174 [.ref o0] hp = dn pg 174 0 [some (.ref o0)] [] hp := rfl
theorem E175 {o0 : Nat} {x1 : Int32} {hp : pH} : cl pg 175 [.ref o0, .int x1] hp = dn pg 175 0 [some (.ref o0), some (.int x1), none] [] hp := rfl
theorem E176 {o0 : Nat} {o1 : Nat} {x2 : Int32} {hp : pH} : cl pg 176 [.ref o0, .ref o1, .int x2] hp = dn pg 176 0 [some (.ref o0), some (.ref o1), some (.int x2), none] [] hp := rfl
theorem E177 {o0 : Nat} {x1 : Int32} {hp : pH} : cl pg 177 [.ref o0, .int x1] hp = dn pg 177 0 [some (.ref o0), some (.int x1)] [] hp := rfl
theorem E178 {o0 : Nat} {x1 : Int32} {hp : pH} : cl pg 178 [.ref o0, .int x1] hp = dn pg 178 0 [some (.ref o0), some (.int x1)] [] hp := rfl
theorem E179 {o0 : Nat} {x1 : Int32} {x2 : Int32} {hp : pH} : cl pg 179 [.ref o0, .int x1, .int x2] hp = dn pg 179 0 [some (.ref o0), some (.int x1), some (.int x2)] [] hp := rfl
theorem E180 {o0 : Nat} {hp : pH} : cl pg 180 [.ref o0] hp = dn pg 180 0 [some (.ref o0), none, none, none] [] hp := rfl

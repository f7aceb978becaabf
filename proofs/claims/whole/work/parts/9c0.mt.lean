/-! THE REFERENCE'S TABLES -/
def bWT : List Nat := [4, 4, 2, 2, 3, 2, 2]
def bHT : List Nat := [2, 2, 2, 2, 1, 1, 1]
def nCT : List Nat := [3, 3, 3, 4, 4, 3, 3]
def mxT : List Nat := [0, 4, 2, 0, 0, 4, 2, 0, 0, 2, 0, 0, 1, 2, 1, 0, 0, 2, 3, 1, 0, 2, 1, 0, 0, 2, 1, 0]
def myT : List Nat := [0, 0, 2, 0, 0, 0, 2, 0, 0, 0, 2, 0, 0, 1, 2, 1, 0, 0, 1, 1, 0, 0, 1, 0, 0, 0, 1, 0]
def lxT : List (List Nat) := [[0, 0, 1, 1, 1, 1, 2, 2, 2, 2, 3, 3, 1, 1, 2, 2], [3, 3, 2, 2, 2, 2, 1, 1, 1, 1, 0, 0, 2, 2, 1, 1], [1, 1, 1, 1, 1, 1, 1, 1, 1, 1, 1, 1, 0, 0, 0, 0], [1, 1, 1, 1, 1, 1, 1, 1, 1, 1, 1, 1, 0, 0, 0, 0], [3, 3, 2, 2, 2, 2, 1, 1, 1, 1, 0, 0, 2, 2, 1, 1], [0, 0, 1, 1, 1, 1, 2, 2, 2, 2, 3, 3, 1, 1, 2, 2], [0, 0, 0, 0, 0, 0, 0, 0, 0, 0, 0, 0, 1, 1, 1, 1], [0, 0, 0, 0, 0, 0, 0, 0, 0, 0, 0, 0, 1, 1, 1, 1], [0, 0, 1, 1, 1, 1, 2, 2, 2, 2, 3, 3, 1, 1, 2, 2], [3, 3, 2, 2, 2, 2, 1, 1, 1, 1, 0, 0, 2, 2, 1, 1], [1, 1, 1, 1, 1, 1, 1, 1, 1, 1, 1, 1, 0, 0, 0, 0], [1, 1, 1, 1, 1, 1, 1, 1, 1, 1, 1, 1, 0, 0, 0, 0], [3, 3, 2, 2, 2, 2, 1, 1, 1, 1, 0, 0, 2, 2, 1, 1], [0, 0, 1, 1, 1, 1, 2, 2, 2, 2, 3, 3, 1, 1, 2, 2], [0, 0, 0, 0, 0, 0, 0, 0, 0, 0, 0, 0, 1, 1, 1, 1], [0, 0, 0, 0, 0, 0, 0, 0, 0, 0, 0, 0, 1, 1, 1, 1], [0, 0, 0, 0, 1, 1, 0, 0, 0, 0, 0, 0, 0, 0, 0, 0], [1, 1, 1, 1, 0, 0, 1, 1, 0, 0, 0, 0, 0, 0, 0, 0], [1, 1, 1, 1, 1, 1, 0, 0, 0, 0, 0, 0, 0, 0, 0, 0], [1, 1, 1, 1, 1, 1, 0, 0, 0, 0, 0, 0, 0, 0, 0, 0], [1, 1, 1, 1, 0, 0, 1, 1, 0, 0, 0, 0, 0, 0, 0, 0], [0, 0, 0, 0, 1, 1, 0, 0, 0, 0, 0, 0, 0, 0, 0, 0], [0, 0, 0, 0, 0, 0, 1, 1, 0, 0, 0, 0, 0, 0, 0, 0], [0, 0, 0, 0, 0, 0, 1, 1, 0, 0, 0, 0, 0, 0, 0, 0], [0, 0, 1, 1, 0, 0, 1, 1, 0, 0, 0, 0, 0, 0, 0, 0], [1, 1, 0, 0, 1, 1, 0, 0, 0, 0, 0, 0, 0, 0, 0, 0], [1, 1, 1, 1, 0, 0, 0, 0, 0, 0, 0, 0, 0, 0, 0, 0], [1, 1, 1, 1, 0, 0, 0, 0, 0, 0, 0, 0, 0, 0, 0, 0], [1, 1, 0, 0, 1, 1, 0, 0, 0, 0, 0, 0, 0, 0, 0, 0], [0, 0, 1, 1, 0, 0, 1, 1, 0, 0, 0, 0, 0, 0, 0, 0], [0, 0, 0, 0, 1, 1, 1, 1, 0, 0, 0, 0, 0, 0, 0, 0], [0, 0, 0, 0, 1, 1, 1, 1, 0, 0, 0, 0, 0, 0, 0, 0], [0, 0, 1, 1, 1, 1, 2, 2, 0, 0, 0, 0, 0, 0, 0, 0], [2, 2, 1, 1, 1, 1, 0, 0, 0, 0, 0, 0, 0, 0, 0, 0], [0, 0, 0, 0, 0, 0, 0, 0, 0, 0, 0, 0, 0, 0, 0, 0], [0, 0, 0, 0, 0, 0, 0, 0, 0, 0, 0, 0, 0, 0, 0, 0], [2, 2, 1, 1, 1, 1, 0, 0, 0, 0, 0, 0, 0, 0, 0, 0], [0, 0, 1, 1, 1, 1, 2, 2, 0, 0, 0, 0, 0, 0, 0, 0], [0, 0, 0, 0, 0, 0, 0, 0, 0, 0, 0, 0, 0, 0, 0, 0], [0, 0, 0, 0, 0, 0, 0, 0, 0, 0, 0, 0, 0, 0, 0, 0], [0, 0, 1, 1, 0, 0, 0, 0, 0, 0, 0, 0, 0, 0, 0, 0], [1, 1, 0, 0, 0, 0, 0, 0, 0, 0, 0, 0, 0, 0, 0, 0], [0, 0, 0, 0, 0, 0, 0, 0, 0, 0, 0, 0, 0, 0, 0, 0], [0, 0, 0, 0, 0, 0, 0, 0, 0, 0, 0, 0, 0, 0, 0, 0], [1, 1, 0, 0, 0, 0, 0, 0, 0, 0, 0, 0, 0, 0, 0, 0], [0, 0, 1, 1, 0, 0, 0, 0, 0, 0, 0, 0, 0, 0, 0, 0], [0, 0, 0, 0, 0, 0, 0, 0, 0, 0, 0, 0, 0, 0, 0, 0], [0, 0, 0, 0, 0, 0, 0, 0, 0, 0, 0, 0, 0, 0, 0, 0], [0, 0, 1, 1, 0, 0, 0, 0, 0, 0, 0, 0, 0, 0, 0, 0], [1, 1, 0, 0, 0, 0, 0, 0, 0, 0, 0, 0, 0, 0, 0, 0], [0, 0, 0, 0, 0, 0, 0, 0, 0, 0, 0, 0, 0, 0, 0, 0], [0, 0, 0, 0, 0, 0, 0, 0, 0, 0, 0, 0, 0, 0, 0, 0], [1, 1, 0, 0, 0, 0, 0, 0, 0, 0, 0, 0, 0, 0, 0, 0], [0, 0, 1, 1, 0, 0, 0, 0, 0, 0, 0, 0, 0, 0, 0, 0], [0, 0, 0, 0, 0, 0, 0, 0, 0, 0, 0, 0, 0, 0, 0, 0], [0, 0, 0, 0, 0, 0, 0, 0, 0, 0, 0, 0, 0, 0, 0, 0]]
def lyT : List (List Nat) := [[0, 0, 0, 0, 0, 0, 0, 0, 0, 0, 0, 0, 1, 1, 1, 1], [0, 0, 0, 0, 0, 0, 0, 0, 0, 0, 0, 0, 1, 1, 1, 1], [0, 0, 1, 1, 1, 1, 2, 2, 2, 2, 3, 3, 1, 1, 2, 2], [3, 3, 2, 2, 2, 2, 1, 1, 1, 1, 0, 0, 2, 2, 1, 1], [1, 1, 1, 1, 1, 1, 1, 1, 1, 1, 1, 1, 0, 0, 0, 0], [1, 1, 1, 1, 1, 1, 1, 1, 1, 1, 1, 1, 0, 0, 0, 0], [3, 3, 2, 2, 2, 2, 1, 1, 1, 1, 0, 0, 2, 2, 1, 1], [0, 0, 1, 1, 1, 1, 2, 2, 2, 2, 3, 3, 1, 1, 2, 2], [0, 0, 0, 0, 0, 0, 0, 0, 0, 0, 0, 0, 1, 1, 1, 1], [0, 0, 0, 0, 0, 0, 0, 0, 0, 0, 0, 0, 1, 1, 1, 1], [0, 0, 1, 1, 1, 1, 2, 2, 2, 2, 3, 3, 1, 1, 2, 2], [3, 3, 2, 2, 2, 2, 1, 1, 1, 1, 0, 0, 2, 2, 1, 1], [1, 1, 1, 1, 1, 1, 1, 1, 1, 1, 1, 1, 0, 0, 0, 0], [1, 1, 1, 1, 1, 1, 1, 1, 1, 1, 1, 1, 0, 0, 0, 0], [3, 3, 2, 2, 2, 2, 1, 1, 1, 1, 0, 0, 2, 2, 1, 1], [0, 0, 1, 1, 1, 1, 2, 2, 2, 2, 3, 3, 1, 1, 2, 2], [0, 0, 0, 0, 0, 0, 1, 1, 0, 0, 0, 0, 0, 0, 0, 0], [0, 0, 0, 0, 0, 0, 1, 1, 0, 0, 0, 0, 0, 0, 0, 0], [0, 0, 0, 0, 1, 1, 0, 0, 0, 0, 0, 0, 0, 0, 0, 0], [1, 1, 1, 1, 0, 0, 1, 1, 0, 0, 0, 0, 0, 0, 0, 0], [1, 1, 1, 1, 1, 1, 0, 0, 0, 0, 0, 0, 0, 0, 0, 0], [1, 1, 1, 1, 1, 1, 0, 0, 0, 0, 0, 0, 0, 0, 0, 0], [1, 1, 1, 1, 0, 0, 1, 1, 0, 0, 0, 0, 0, 0, 0, 0], [0, 0, 0, 0, 1, 1, 0, 0, 0, 0, 0, 0, 0, 0, 0, 0], [0, 0, 0, 0, 1, 1, 1, 1, 0, 0, 0, 0, 0, 0, 0, 0], [0, 0, 0, 0, 1, 1, 1, 1, 0, 0, 0, 0, 0, 0, 0, 0], [0, 0, 1, 1, 0, 0, 1, 1, 0, 0, 0, 0, 0, 0, 0, 0], [1, 1, 0, 0, 1, 1, 0, 0, 0, 0, 0, 0, 0, 0, 0, 0], [1, 1, 1, 1, 0, 0, 0, 0, 0, 0, 0, 0, 0, 0, 0, 0], [1, 1, 1, 1, 0, 0, 0, 0, 0, 0, 0, 0, 0, 0, 0, 0], [1, 1, 0, 0, 1, 1, 0, 0, 0, 0, 0, 0, 0, 0, 0, 0], [0, 0, 1, 1, 0, 0, 1, 1, 0, 0, 0, 0, 0, 0, 0, 0], [0, 0, 0, 0, 0, 0, 0, 0, 0, 0, 0, 0, 0, 0, 0, 0], [0, 0, 0, 0, 0, 0, 0, 0, 0, 0, 0, 0, 0, 0, 0, 0], [0, 0, 1, 1, 1, 1, 2, 2, 0, 0, 0, 0, 0, 0, 0, 0], [2, 2, 1, 1, 1, 1, 0, 0, 0, 0, 0, 0, 0, 0, 0, 0], [0, 0, 0, 0, 0, 0, 0, 0, 0, 0, 0, 0, 0, 0, 0, 0], [0, 0, 0, 0, 0, 0, 0, 0, 0, 0, 0, 0, 0, 0, 0, 0], [2, 2, 1, 1, 1, 1, 0, 0, 0, 0, 0, 0, 0, 0, 0, 0], [0, 0, 1, 1, 1, 1, 2, 2, 0, 0, 0, 0, 0, 0, 0, 0], [0, 0, 0, 0, 0, 0, 0, 0, 0, 0, 0, 0, 0, 0, 0, 0], [0, 0, 0, 0, 0, 0, 0, 0, 0, 0, 0, 0, 0, 0, 0, 0], [0, 0, 1, 1, 0, 0, 0, 0, 0, 0, 0, 0, 0, 0, 0, 0], [1, 1, 0, 0, 0, 0, 0, 0, 0, 0, 0, 0, 0, 0, 0, 0], [0, 0, 0, 0, 0, 0, 0, 0, 0, 0, 0, 0, 0, 0, 0, 0], [0, 0, 0, 0, 0, 0, 0, 0, 0, 0, 0, 0, 0, 0, 0, 0], [1, 1, 0, 0, 0, 0, 0, 0, 0, 0, 0, 0, 0, 0, 0, 0], [0, 0, 1, 1, 0, 0, 0, 0, 0, 0, 0, 0, 0, 0, 0, 0], [0, 0, 0, 0, 0, 0, 0, 0, 0, 0, 0, 0, 0, 0, 0, 0], [0, 0, 0, 0, 0, 0, 0, 0, 0, 0, 0, 0, 0, 0, 0, 0], [0, 0, 1, 1, 0, 0, 0, 0, 0, 0, 0, 0, 0, 0, 0, 0], [1, 1, 0, 0, 0, 0, 0, 0, 0, 0, 0, 0, 0, 0, 0, 0], [0, 0, 0, 0, 0, 0, 0, 0, 0, 0, 0, 0, 0, 0, 0, 0], [0, 0, 0, 0, 0, 0, 0, 0, 0, 0, 0, 0, 0, 0, 0, 0], [1, 1, 0, 0, 0, 0, 0, 0, 0, 0, 0, 0, 0, 0, 0, 0], [0, 0, 1, 1, 0, 0, 0, 0, 0, 0, 0, 0, 0, 0, 0, 0]]
def lqT : List (List Nat) := [[0, 1, 0, 1, 2, 3, 0, 1, 2, 3, 0, 3, 0, 1, 0, 3], [0, 3, 0, 3, 2, 1, 0, 3, 2, 1, 0, 1, 0, 3, 0, 1], [1, 2, 1, 2, 3, 0, 1, 2, 3, 0, 1, 0, 1, 2, 1, 0], [1, 0, 1, 0, 3, 2, 1, 0, 3, 2, 1, 2, 1, 0, 1, 2], [2, 3, 2, 3, 0, 1, 2, 3, 0, 1, 2, 1, 2, 3, 2, 1], [2, 1, 2, 1, 0, 3, 2, 1, 0, 3, 2, 3, 2, 1, 2, 3], [3, 0, 3, 0, 1, 2, 3, 0, 1, 2, 3, 2, 3, 0, 3, 2], [3, 2, 3, 2, 1, 0, 3, 2, 1, 0, 3, 0, 3, 2, 3, 0], [0, 1, 0, 1, 2, 3, 0, 1, 2, 3, 0, 3, 0, 1, 0, 3], [0, 3, 0, 3, 2, 1, 0, 3, 2, 1, 0, 1, 0, 3, 0, 1], [1, 2, 1, 2, 3, 0, 1, 2, 3, 0, 1, 0, 1, 2, 1, 0], [1, 0, 1, 0, 3, 2, 1, 0, 3, 2, 1, 2, 1, 0, 1, 2], [2, 3, 2, 3, 0, 1, 2, 3, 0, 1, 2, 1, 2, 3, 2, 1], [2, 1, 2, 1, 0, 3, 2, 1, 0, 3, 2, 3, 2, 1, 2, 3], [3, 0, 3, 0, 1, 2, 3, 0, 1, 2, 3, 2, 3, 0, 3, 2], [3, 2, 3, 2, 1, 0, 3, 2, 1, 0, 3, 0, 3, 2, 3, 0], [0, 1, 2, 3, 0, 3, 0, 3, 0, 0, 0, 0, 0, 0, 0, 0], [0, 3, 2, 1, 0, 1, 0, 1, 0, 0, 0, 0, 0, 0, 0, 0], [1, 2, 3, 0, 1, 0, 1, 0, 0, 0, 0, 0, 0, 0, 0, 0], [1, 0, 3, 2, 1, 2, 1, 2, 0, 0, 0, 0, 0, 0, 0, 0], [2, 3, 0, 1, 2, 1, 2, 1, 0, 0, 0, 0, 0, 0, 0, 0], [2, 1, 0, 3, 2, 3, 2, 3, 0, 0, 0, 0, 0, 0, 0, 0], [3, 0, 1, 2, 3, 2, 3, 2, 0, 0, 0, 0, 0, 0, 0, 0], [3, 2, 1, 0, 3, 0, 3, 0, 0, 0, 0, 0, 0, 0, 0, 0], [1, 2, 2, 3, 0, 1, 0, 3, 0, 0, 0, 0, 0, 0, 0, 0], [3, 2, 2, 1, 0, 3, 0, 1, 0, 0, 0, 0, 0, 0, 0, 0], [2, 3, 3, 0, 1, 2, 1, 0, 0, 0, 0, 0, 0, 0, 0, 0], [0, 3, 3, 2, 1, 0, 1, 2, 0, 0, 0, 0, 0, 0, 0, 0], [3, 0, 0, 1, 2, 3, 2, 1, 0, 0, 0, 0, 0, 0, 0, 0], [1, 0, 0, 3, 2, 1, 2, 3, 0, 0, 0, 0, 0, 0, 0, 0], [0, 1, 1, 2, 3, 0, 3, 2, 0, 0, 0, 0, 0, 0, 0, 0], [2, 1, 1, 0, 3, 2, 3, 0, 0, 0, 0, 0, 0, 0, 0, 0], [0, 1, 0, 1, 2, 3, 2, 3, 0, 0, 0, 0, 0, 0, 0, 0], [0, 3, 0, 3, 2, 1, 2, 1, 0, 0, 0, 0, 0, 0, 0, 0], [1, 2, 1, 2, 3, 0, 3, 0, 0, 0, 0, 0, 0, 0, 0, 0], [1, 0, 1, 0, 3, 2, 3, 2, 0, 0, 0, 0, 0, 0, 0, 0], [2, 3, 2, 3, 0, 1, 0, 1, 0, 0, 0, 0, 0, 0, 0, 0], [2, 1, 2, 1, 0, 3, 0, 3, 0, 0, 0, 0, 0, 0, 0, 0], [3, 0, 3, 0, 1, 2, 1, 2, 0, 0, 0, 0, 0, 0, 0, 0], [3, 2, 3, 2, 1, 0, 1, 0, 0, 0, 0, 0, 0, 0, 0, 0], [0, 1, 0, 3, 0, 0, 0, 0, 0, 0, 0, 0, 0, 0, 0, 0], [0, 3, 0, 1, 0, 0, 0, 0, 0, 0, 0, 0, 0, 0, 0, 0], [1, 2, 1, 0, 0, 0, 0, 0, 0, 0, 0, 0, 0, 0, 0, 0], [1, 0, 1, 2, 0, 0, 0, 0, 0, 0, 0, 0, 0, 0, 0, 0], [2, 3, 2, 1, 0, 0, 0, 0, 0, 0, 0, 0, 0, 0, 0, 0], [2, 1, 2, 3, 0, 0, 0, 0, 0, 0, 0, 0, 0, 0, 0, 0], [3, 0, 3, 2, 0, 0, 0, 0, 0, 0, 0, 0, 0, 0, 0, 0], [3, 2, 3, 0, 0, 0, 0, 0, 0, 0, 0, 0, 0, 0, 0, 0], [0, 1, 0, 3, 0, 0, 0, 0, 0, 0, 0, 0, 0, 0, 0, 0], [0, 3, 0, 1, 0, 0, 0, 0, 0, 0, 0, 0, 0, 0, 0, 0], [1, 2, 1, 0, 0, 0, 0, 0, 0, 0, 0, 0, 0, 0, 0, 0], [1, 0, 1, 2, 0, 0, 0, 0, 0, 0, 0, 0, 0, 0, 0, 0], [2, 3, 2, 1, 0, 0, 0, 0, 0, 0, 0, 0, 0, 0, 0, 0], [2, 1, 2, 3, 0, 0, 0, 0, 0, 0, 0, 0, 0, 0, 0, 0], [3, 0, 3, 2, 0, 0, 0, 0, 0, 0, 0, 0, 0, 0, 0, 0], [3, 2, 3, 0, 0, 0, 0, 0, 0, 0, 0, 0, 0, 0, 0, 0]]
def lfT : List Nat := [0, 26, 32, 58, 79, 93, 107, 113, 128, 154, 160, 186, 207, 221, 235, 241, 256, 276, 295, 308, 327, 342, 357, 371, 384, 403, 420, 438, 455, 469, 482, 497, 512, 535, 544, 567, 582, 593, 614, 625, 640, 658, 672, 690, 707, 721, 739, 753, 768, 786, 800, 818, 835, 849, 867, 881]
def bW (p : Nat) : Nat := bWT.getD p 0
def bH (p : Nat) : Nat := bHT.getD p 0
def nC (p : Nat) : Nat := nCT.getD p 0
def mcX (c : Nat) : Nat := mxT.getD c 0
def mcY (c : Nat) : Nat := myT.getD c 0
def lX (i k : Nat) : Nat := (lxT.getD i []).getD k 0
def lY (i k : Nat) : Nat := (lyT.getD i []).getD k 0
def lQ (i k : Nat) : Nat := (lqT.getD i []).getD k 0
def lF (i : Nat) : Nat := lfT.getD i 0
/-- the k-th quarter of form i -/
def lz (i k : Nat) : Nat := 48 * lY i k + 4 * lX i k + lQ i k
theorem lz_am : (List.range 56).all (fun i => (List.range 16).all (fun k => !decide (k < pN (i / 8)) || (fS i (lz i k) && decide (lY i k < fH i ∧ lX i k < fW i ∧ lQ i k < 4))) && (List.range 192).all (fun z => !fS i z || (List.range 16).any (fun k => decide (k < pN (i / 8)) && decide (lz i k = z)))) = true := by decide +kernel
theorem pN_16 (p : Nat) : pN p ≤ 16 := by
  unfold pN
  match p with
  | 0 => decide
  | 1 => decide
  | 2 => decide
  | 3 => decide
  | 4 => decide
  | 5 => decide
  | 6 => decide
  | p + 7 => exact Nat.zero_le _
theorem lz_in {i k : Nat} (hi : i < 56) (hk : k < pN (i / 8)) : fS i (lz i k) = true ∧ lY i k < fH i ∧ lX i k < fW i ∧ lQ i k < 4 := by
  have h16 := pN_16 (i / 8)
  have h := List.all_eq_true.mp lz_am i (List.mem_range.mpr hi)
  rw [Bool.and_eq_true] at h
  have h2 := List.all_eq_true.mp h.1 k (List.mem_range.mpr (by omega))
  rw [Bool.or_eq_true, decide_eq_true hk, Bool.not_true, Bool.and_eq_true, decide_eq_true_iff] at h2
  exact h2.resolve_left (by decide)
theorem lz_ex {i z : Nat} (hi : i < 56) (hz : fS i z = true) : ∃ k, k < pN (i / 8) ∧ lz i k = z := by
  have h := List.all_eq_true.mp lz_am i (List.mem_range.mpr hi)
  rw [Bool.and_eq_true] at h
  have h2 := List.all_eq_true.mp h.2 z (List.mem_range.mpr (fS_lt hi hz))
  rw [hz, Bool.not_true, Bool.false_or] at h2
  obtain ⟨k, -, h3⟩ := List.any_eq_true.mp h2
  rw [Bool.and_eq_true, decide_eq_true_iff, decide_eq_true_iff] at h3
  exact ⟨k, h3.1, h3.2⟩
theorem bx_am : (List.range 56).all (fun i => decide (fW i = (if i % 8 / 2 % 2 = 0 then bW (i / 8) else bH (i / 8)) ∧ fH i = (if i % 8 / 2 % 2 = 0 then bH (i / 8) else bW (i / 8)) ∧ lF i < 16 * i + pN (i / 8) ∧ 16 * i ≤ lF i ∧ lz i (lF i - 16 * i) = fQ i ∧ fC i = nC (i / 8) ∧ 1 ≤ bW (i / 8) ∧ bW (i / 8) ≤ 4 ∧ 1 ≤ bH (i / 8) ∧ bH (i / 8) ≤ 4)) = true := by decide +kernel
theorem bx_ok {i : Nat} (hi : i < 56) : fW i = (if i % 8 / 2 % 2 = 0 then bW (i / 8) else bH (i / 8)) ∧ fH i = (if i % 8 / 2 % 2 = 0 then bH (i / 8) else bW (i / 8)) ∧ lF i < 16 * i + pN (i / 8) ∧ 16 * i ≤ lF i ∧ lz i (lF i - 16 * i) = fQ i ∧ fC i = nC (i / 8) ∧ 1 ≤ bW (i / 8) ∧ bW (i / 8) ≤ 4 ∧ 1 ≤ bH (i / 8) ∧ bH (i / 8) ≤ 4 := of_decide_eq_true (List.all_eq_true.mp bx_am i (List.mem_range.mpr hi))
/-- the reference's tables stand in the heap -/
def TabOK (I : ZI) : Prop := (∀ p : Nat, p < 7 → I 609 p = bW p ∧ I 610 p = bH p ∧ I 611 p = nC p ∧ I 614 p = pN p) ∧ (∀ c : Nat, c < 28 → I 612 c = mcX c ∧ I 613 c = mcY c) ∧
  (∀ i k : Nat, i < 56 → k < 16 → I 615 ((16 * i + k : Nat) : Int) = lX i k ∧ I 616 ((16 * i + k : Nat) : Int) = lY i k ∧ I 617 ((16 * i + k : Nat) : Int) = lQ i k) ∧ ∀ i : Nat, i < 56 → I 618 i = lF i ∧ I 619 i = fV i
theorem TabOK.fr {I I' : ZI} (h : TabOK I) (h1 : ∀ (a : Nat) (b : Int), 609 ≤ a → a ≤ 619 → I' a b = I a b) : TabOK I' := by
  obtain ⟨a1, a2, a3, a4⟩ := h
  refine ⟨fun p hp => ?_, fun c hc => ?_, fun i k hi hk => ?_, fun i hi => ?_⟩
  · rw [h1 _ _ (by omega) (by omega), h1 _ _ (by omega) (by omega), h1 _ _ (by omega) (by omega), h1 _ _ (by omega) (by omega)]; exact a1 p hp
  · rw [h1 _ _ (by omega) (by omega), h1 _ _ (by omega) (by omega)]; exact a2 c hc
  · rw [h1 _ _ (by omega) (by omega), h1 _ _ (by omega) (by omega), h1 _ _ (by omega) (by omega)]; exact a3 i k hi hk
  · rw [h1 _ _ (by omega) (by omega), h1 _ _ (by omega) (by omega)]; exact a4 i hi
/-- a number of a placed piece; -1 if it is off -/
def tlM (M : Mo) (p : Nat) (w : Int) : Int := if mF M p = -1 then -1 else if w = 0 then mX M p else if w = 1 then mY M p else if w = 2 then mF M p / 2 else mF M p % 2
/-- a word's bit -/
def bW1 (x : Int) (k : Nat) : Bool := decide (zand (x / 2 ^ k) 1 = 1)
/-- a row of numbers holds M -/
def RowM (I : ZI) (r : Nat) (b : Int) (M : Mo) : Prop := I r b = mN M ∧ (∀ p w : Nat, p < 7 → w < 4 → I r (b + ((1 + 4 * p + w : Nat) : Int)) = tlM M p w) ∧
  ∀ k : Nat, k < mN M → ∀ q : Nat, q < 576 → zR (I r (b + ((29 + 18 * k + q / 32 : Nat) : Int))) ∧ bW1 (I r (b + ((29 + 18 * k + q / 32 : Nat) : Int))) (q % 32) = mS M k q
theorem RowM.fr {I I' : ZI} {r : Nat} {b : Int} {M : Mo} (h : RowM I r b M) (hn : mN M ≤ 8) (h1 : ∀ j : Int, b ≤ j → j < b + 173 → I' r j = I r j) : RowM I' r b M := by
  obtain ⟨a1, a2, a3⟩ := h
  refine ⟨by rw [h1 _ (by omega) (by omega)]; exact a1, fun p w hp hw => ?_, fun k hk q hq => ?_⟩
  · rw [h1 _ (by omega) (by omega)]; exact a2 p w hp hw
  · rw [h1 _ (by omega) (by omega)]; exact a3 k hk q hq
/-- the same row elsewhere -/
theorem RowM.cp {I I' : ZI} {r r' : Nat} {b b' : Int} {M : Mo} (h : RowM I r b M) (hn : mN M ≤ 8) (h1 : ∀ j : Int, 0 ≤ j → j < 173 → I' r' (b' + j) = I r (b + j)) : RowM I' r' b' M := by
  obtain ⟨a1, a2, a3⟩ := h
  refine ⟨?_, fun p w hp hw => ?_, fun k hk q hq => ?_⟩
  · have := h1 0 (by omega) (by omega)
    rw [Int.add_zero, Int.add_zero] at this
    rw [this]; exact a1
  · rw [h1 _ (by omega) (by omega)]; exact a2 p w hp hw
  · rw [h1 _ (by omega) (by omega)]; exact a3 k hk q hq
/-- the reference stands for: a board of W by H, the state M, the past, the snapshots v, the buffer -/
def MB (I : ZI) (W H : Nat) (M : Mo) (P : Nat → Mo) (n : Nat) (SL : Nat → Mo) (v : Nat → Int) (bl : Nat) (u : Nat → Int) : Prop :=
  TabOK I ∧ RowM I 604 0 M ∧ (I 603 5 = W ∧ I 603 6 = H) ∧ (I 603 7 = n ∧ n ≤ 8) ∧ (∀ i : Nat, i < n → RowM I 606 ((173 * i : Nat) : Int) (P i)) ∧
  (∀ t : Nat, t < 2 → I 608 t = v t ∧ (v t = 0 ∨ v t = 1) ∧ (v t = 1 → RowM I 607 ((173 * t : Nat) : Int) (SL t))) ∧
  (I 603 51 = bl ∧ bl ≤ 700 ∧ ∀ i : Nat, i < bl → 0 ≤ u i ∧ u i < 256 ∧ I 641 i = u i) ∧ zR (I 603 56)
/-- what stands there of class and reference alike is well formed -/
def WfA (W H : Nat) (M : Mo) (P : Nat → Mo) (n : Nat) (SL : Nat → Mo) (v : Nat → Int) : Prop := Wf W H M ∧ (∀ i, i < n → Wf W H (P i)) ∧ ∀ t : Nat, t < 2 → v t = 1 → Wf W H (SL t)
/-- the reference's room for thought -/
def PSc : Nat → Int → Prop := fun a b => (a = 603 ∧ b ≠ 5 ∧ b ≠ 6 ∧ b ≠ 7 ∧ b ≠ 51 ∧ b ≠ 56) ∨ a = 605 ∨ (620 ≤ a ∧ a ≤ 640) ∨ a = 642
theorem MB.fr {I I' : ZI} {W H : Nat} {M : Mo} {P : Nat → Mo} {n : Nat} {SL : Nat → Mo} {v : Nat → Int} {bl : Nat} {u : Nat → Int} (h : MB I W H M P n SL v bl u) (hW : WfA W H M P n SL v) (h1 : ∀ (a : Nat) (b : Int), 603 ≤ a → ¬ PSc a b → I' a b = I a b) : MB I' W H M P n SL v bl u := by
  obtain ⟨a1, a2, ⟨a3, a4⟩, ⟨a5, a6⟩, a7, a8, ⟨a9, a10, a11⟩, a12⟩ := h
  have e : ∀ (a : Nat) (b : Int), 603 ≤ a → a ≠ 605 → ¬ (620 ≤ a ∧ a ≤ 640) → a ≠ 642 → a ≠ 603 → I' a b = I a b := fun a b g1 g2 g3 g4 g5 => h1 a b g1 (by unfold PSc; omega)
  refine ⟨a1.fr (fun a b _ _ => e a b (by omega) (by omega) (by omega) (by omega) (by omega)), a2.fr hW.1.2.1 (fun j _ _ => e _ _ (by omega) (by omega) (by omega) (by omega) (by omega)), ⟨?_, ?_⟩, ⟨?_, a6⟩, fun i hi => (a7 i hi).fr (hW.2.1 i hi).2.1 (fun j _ _ => e _ _ (by omega) (by omega) (by omega) (by omega) (by omega)), fun t ht => ?_, ⟨?_, a10, fun i hi => ?_⟩, ?_⟩
  · rw [h1 _ _ (by omega) (by unfold PSc; omega)]; exact a3
  · rw [h1 _ _ (by omega) (by unfold PSc; omega)]; exact a4
  · rw [h1 _ _ (by omega) (by unfold PSc; omega)]; exact a5
  · rw [e _ _ (by omega) (by omega) (by omega) (by omega) (by omega)]
    obtain ⟨b1, b2, b3⟩ := a8 t ht
    exact ⟨b1, b2, fun g => (b3 g).fr (hW.2.2 t ht g).2.1 (fun j _ _ => e _ _ (by omega) (by omega) (by omega) (by omega) (by omega))⟩
  · rw [h1 _ _ (by omega) (by unfold PSc; omega)]; exact a9
  · rw [e _ _ (by omega) (by omega) (by omega) (by omega) (by omega)]; exact a11 i hi
  · rw [h1 _ _ (by omega) (by unfold PSc; omega)]; exact a12
theorem l6_lt {x y : Int} (hx : -4611686018427387904 ≤ x ∧ x ≤ 4611686018427387904) (hy : -4611686018427387904 ≤ y ∧ y ≤ 4611686018427387904) : l6 x < l6 y ↔ x < y := by
  have e : ∀ {z : Int}, (-4611686018427387904 ≤ z ∧ z ≤ 4611686018427387904) → (l6 z).toInt = z := fun {z} h => Int64.toInt_ofInt_of_le (by omega) (by omega)
  rw [Int64.lt_iff_toInt_lt, e hx, e hy]
theorem l6_eq {x y : Int} (hx : -4611686018427387904 ≤ x ∧ x ≤ 4611686018427387904) (hy : -4611686018427387904 ≤ y ∧ y ≤ 4611686018427387904) : l6 x = l6 y ↔ x = y := by
  have e : ∀ {z : Int}, (-4611686018427387904 ≤ z ∧ z ≤ 4611686018427387904) → (l6 z).toInt = z := fun {z} h => Int64.toInt_ofInt_of_le (by omega) (by omega)
  refine ⟨fun h => ?_, fun h => by rw [h]⟩
  have := congrArg Int64.toInt h
  rw [e hx, e hy] at this
  exact this

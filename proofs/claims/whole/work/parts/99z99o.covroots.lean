/-! ROOT SCHEMES, SEVERAL BINDERS: natural values, what is left. -/
def eL0 : List (List (Nat × Nat × Nat × Nat)) := [[], [], [], [], [], [], [], [], [], [], [], [], [], [], [], [], [], [], [], [], [], [], [], [], [], [], [], [], [], [], [], [], [], [], [], [], [], [], [], [], [], [(1, 23, 0, 9), (1, 27, 0, 5), (1, 27, 5, 0), (2, 22, 0, 9), (5, 22, 6, 0)], [(1, 22, 11, 0), (1, 23, 0, 10), (1, 24, 0, 9), (1, 27, 0, 6), (1, 27, 6, 0), (1, 28, 0, 5), (1, 28, 5, 0), (2, 22, 0, 10), (2, 23, 0, 9), (2, 26, 0, 6), (2, 26, 6, 0), (2, 27, 0, 5), (2, 27, 5, 0), (3, 22, 0, 9), (4, 22, 8, 0), (5, 22, 7, 0), (5, 23, 6, 0), (6, 22, 6, 0), (7, 18, 0, 9), (7, 22, 0, 5), (7, 22, 5, 0)], [(1, 22, 12, 0), (1, 23, 0, 11), (1, 23, 11, 0), (1, 24, 0, 10), (1, 25, 0, 9), (1, 26, 8, 0), (1, 27, 0, 7), (1, 27, 7, 0), (1, 28, 0, 6), (1, 28, 6, 0), (1, 29, 0, 5), (1, 29, 5, 0), (2, 22, 0, 11), (2, 22, 11, 0), (2, 23, 0, 10), (2, 24, 0, 9), (2, 26, 0, 7), (2, 26, 7, 0), (2, 27, 0, 6), (2, 27, 6, 0), (2, 28, 0, 5), (2, 28, 5, 0), (3, 22, 0, 10), (3, 23, 0, 9), (3, 26, 0, 6), (3, 26, 6, 0), (3, 27, 0, 5), (3, 27, 5, 0), (4, 22, 0, 9), (4, 22, 9, 0), (4, 23, 8, 0), (4, 26, 0, 5), (4, 26, 5, 0), (5, 22, 8, 0), (5, 23, 7, 0), (5, 24, 6, 0), (6, 22, 7, 0), (6, 23, 6, 0), (7, 18, 0, 10), (7, 19, 0, 9), (7, 22, 0, 6), (7, 22, 6, 0), (7, 23, 0, 5), (7, 23, 5, 0), (8, 18, 0, 9), (8, 22, 0, 5), (8, 22, 5, 0)], [(1, 22, 0, 13), (1, 25, 0, 10), (1, 26, 0, 9), (1, 27, 0, 8), (1, 27, 8, 0), (1, 28, 0, 7), (1, 28, 7, 0), (1, 29, 0, 6), (1, 29, 6, 0), (1, 30, 0, 5), (1, 30, 5, 0), (2, 22, 0, 12), (2, 22, 12, 0), (2, 23, 0, 11), (2, 23, 11, 0), (2, 24, 0, 10), (2, 25, 0, 9), (2, 26, 0, 8), (2, 26, 8, 0), (2, 27, 0, 7), (2, 27, 7, 0), (2, 28, 0, 6), (2, 28, 6, 0), (2, 29, 0, 5), (2, 29, 5, 0), (3, 22, 0, 11), (3, 22, 11, 0), (3, 23, 0, 10), (3, 24, 0, 9), (3, 26, 0, 7), (3, 26, 7, 0), (3, 27, 0, 6), (3, 27, 6, 0), (3, 28, 0, 5), (3, 28, 5, 0), (4, 22, 0, 10), (4, 22, 10, 0), (4, 23, 0, 9), (4, 23, 9, 0), (4, 24, 8, 0), (4, 26, 0, 6), (4, 26, 6, 0), (4, 27, 0, 5), (4, 27, 5, 0), (5, 18, 0, 13), (5, 20, 11, 0), (5, 22, 0, 9), (5, 22, 9, 0), (5, 23, 8, 0), (5, 24, 7, 0), (5, 25, 6, 0), (5, 26, 0, 5), (5, 26, 5, 0), (6, 22, 8, 0), (6, 23, 7, 0), (6, 24, 6, 0), (7, 18, 0, 11), (7, 18, 11, 0), (7, 19, 0, 10), (7, 20, 0, 9), (7, 22, 0, 7), (7, 22, 7, 0), (7, 23, 0, 6), (7, 23, 6, 0), (7, 24, 0, 5), (7, 24, 5, 0), (8, 18, 0, 10), (8, 19, 0, 9), (8, 22, 0, 6), (8, 22, 6, 0), (8, 23, 0, 5), (8, 23, 5, 0), (9, 18, 0, 9), (9, 22, 0, 5), (9, 22, 5, 0)], [(1, 22, 0, 14), (1, 23, 0, 13), (1, 25, 0, 11), (1, 26, 0, 10), (1, 27, 0, 9), (1, 27, 9, 0), (1, 28, 0, 8), (1, 28, 8, 0), (1, 29, 0, 7), (1, 29, 7, 0), (1, 30, 0, 6), (1, 30, 6, 0), (1, 31, 0, 5), (1, 31, 5, 0), (2, 18, 0, 17), (2, 22, 0, 13), (2, 22, 13, 0), (2, 23, 0, 12), (2, 23, 12, 0), (2, 24, 0, 11), (2, 24, 11, 0), (2, 25, 0, 10), (2, 26, 0, 9), (2, 26, 9, 0), (2, 27, 0, 8), (2, 27, 8, 0), (2, 28, 0, 7), (2, 28, 7, 0), (2, 29, 0, 6), (2, 29, 6, 0), (2, 30, 0, 5), (2, 30, 5, 0), (3, 22, 0, 12), (3, 22, 12, 0), (3, 23, 0, 11), (3, 23, 11, 0), (3, 24, 0, 10), (3, 25, 0, 9), (3, 26, 0, 8), (3, 26, 8, 0), (3, 27, 0, 7), (3, 27, 7, 0), (3, 28, 0, 6), (3, 28, 6, 0), (3, 29, 0, 5), (3, 29, 5, 0), (4, 18, 0, 15), (4, 20, 0, 13), (4, 22, 0, 11), (4, 22, 11, 0), (4, 23, 0, 10), (4, 23, 10, 0), (4, 24, 0, 9), (4, 24, 9, 0), (4, 25, 8, 0), (4, 26, 0, 7), (4, 26, 7, 0), (4, 27, 0, 6), (4, 27, 6, 0), (4, 28, 0, 5), (4, 28, 5, 0), (5, 9, 23, 0), (5, 18, 0, 14), (5, 18, 14, 0), (5, 19, 0, 13), (5, 20, 12, 0), (5, 21, 11, 0), (5, 22, 0, 10), (5, 22, 10, 0), (5, 23, 0, 9), (5, 23, 9, 0), (5, 24, 8, 0), (5, 25, 7, 0), (5, 26, 0, 6), (5, 26, 6, 0), (5, 27, 0, 5), (5, 27, 5, 0), (6, 18, 0, 13), (6, 20, 11, 0), (6, 22, 0, 9), (6, 22, 9, 0), (6, 23, 8, 0), (6, 24, 7, 0), (6, 25, 6, 0), (6, 26, 0, 5), (6, 26, 5, 0), (7, 17, 0, 13), (7, 18, 0, 12), (7, 18, 12, 0), (7, 19, 0, 11), (7, 19, 11, 0), (7, 20, 0, 10), (7, 21, 0, 9), (7, 22, 0, 8), (7, 22, 8, 0), (7, 23, 0, 7), (7, 23, 7, 0), (7, 24, 0, 6), (7, 24, 6, 0), (7, 25, 0, 5), (7, 25, 5, 0), (8, 18, 0, 11), (8, 18, 11, 0), (8, 19, 0, 10), (8, 20, 0, 9), (8, 22, 0, 7), (8, 22, 7, 0), (8, 23, 0, 6), (8, 23, 6, 0), (8, 24, 0, 5), (8, 24, 5, 0), (9, 17, 11, 0), (9, 18, 0, 10), (9, 18, 10, 0), (9, 19, 0, 9), (9, 22, 0, 6), (9, 22, 6, 0), (9, 23, 0, 5), (9, 23, 5, 0), (10, 18, 0, 9), (10, 22, 0, 5), (10, 22, 5, 0)], [(1, 22, 0, 15), (1, 23, 0, 14), (1, 24, 0, 13), (1, 25, 0, 12), (1, 26, 0, 11), (1, 27, 0, 10), (1, 27, 5, 5), (1, 27, 10, 0), (1, 28, 0, 9), (1, 28, 9, 0), (1, 29, 0, 8), (1, 29, 8, 0), (1, 30, 0, 7), (1, 30, 7, 0), (1, 31, 0, 6), (1, 31, 6, 0), (1, 32, 0, 5), (1, 32, 5, 0), (2, 14, 0, 22), (2, 18, 0, 18), (2, 19, 0, 17), (2, 22, 0, 14), (2, 22, 5, 9), (2, 22, 14, 0), (2, 23, 0, 13), (2, 23, 13, 0), (2, 24, 0, 12), (2, 24, 12, 0), (2, 25, 0, 11), (2, 25, 11, 0), (2, 26, 0, 10), (2, 26, 10, 0), (2, 27, 0, 9), (2, 27, 9, 0), (2, 28, 0, 8), (2, 28, 8, 0), (2, 29, 0, 7), (2, 29, 7, 0), (2, 30, 0, 6), (2, 30, 6, 0), (2, 31, 0, 5), (2, 31, 5, 0), (3, 18, 0, 17), (3, 22, 0, 13), (3, 22, 13, 0), (3, 23, 0, 12), (3, 23, 12, 0), (3, 24, 0, 11), (3, 24, 11, 0), (3, 25, 0, 10), (3, 26, 0, 9), (3, 26, 9, 0), (3, 27, 0, 8), (3, 27, 8, 0), (3, 28, 0, 7), (3, 28, 7, 0), (3, 29, 0, 6), (3, 29, 6, 0), (3, 30, 0, 5), (3, 30, 5, 0), (4, 18, 0, 16), (4, 19, 0, 15), (4, 20, 0, 14), (4, 21, 0, 13), (4, 22, 0, 12), (4, 22, 12, 0), (4, 23, 0, 11), (4, 23, 11, 0), (4, 24, 0, 10), (4, 24, 10, 0), (4, 25, 0, 9), (4, 25, 9, 0), (4, 26, 0, 8), (4, 26, 8, 0), (4, 27, 0, 7), (4, 27, 7, 0), (4, 28, 0, 6), (4, 28, 6, 0), (4, 29, 0, 5), (4, 29, 5, 0), (5, 9, 24, 0), (5, 10, 23, 0), (5, 13, 20, 0), (5, 18, 0, 15), (5, 18, 6, 9), (5, 18, 15, 0), (5, 19, 0, 14), (5, 19, 14, 0), (5, 20, 0, 13), (5, 20, 13, 0), (5, 21, 12, 0), (5, 22, 0, 11), (5, 22, 6, 5), (5, 22, 11, 0), (5, 23, 0, 10), (5, 23, 10, 0), (5, 24, 0, 9), (5, 24, 9, 0), (5, 25, 8, 0), (5, 26, 0, 7), (5, 26, 7, 0), (5, 27, 0, 6), (5, 27, 6, 0), (5, 28, 0, 5), (5, 28, 5, 0), (6, 9, 23, 0), (6, 18, 0, 14), (6, 18, 14, 0), (6, 19, 0, 13), (6, 20, 12, 0), (6, 21, 11, 0), (6, 22, 0, 10), (6, 22, 10, 0), (6, 23, 0, 9), (6, 23, 9, 0), (6, 24, 8, 0), (6, 25, 7, 0), (6, 26, 0, 6), (6, 26, 6, 0), (6, 27, 0, 5), (6, 27, 5, 0), (7, 9, 0, 22), (7, 17, 0, 14), (7, 18, 0, 13), (7, 18, 13, 0), (7, 19, 0, 12), (7, 19, 12, 0), (7, 20, 0, 11), (7, 20, 11, 0), (7, 21, 0, 10), (7, 22, 0, 9), (7, 22, 9, 0), (7, 23, 0, 8), (7, 23, 8, 0), (7, 24, 0, 7), (7, 24, 7, 0), (7, 25, 0, 6), (7, 25, 6, 0), (7, 26, 0, 5), (7, 26, 5, 0), (8, 17, 0, 13), (8, 18, 0, 12), (8, 18, 12, 0), (8, 19, 0, 11), (8, 19, 11, 0), (8, 20, 0, 10), (8, 21, 0, 9), (8, 22, 0, 8), (8, 22, 8, 0), (8, 23, 0, 7), (8, 23, 7, 0), (8, 24, 0, 6), (8, 24, 6, 0), (8, 25, 0, 5), (8, 25, 5, 0), (9, 9, 20, 0), (9, 17, 12, 0), (9, 18, 0, 11), (9, 18, 11, 0), (9, 19, 0, 10), (9, 19, 10, 0), (9, 20, 0, 9), (9, 21, 8, 0), (9, 22, 0, 7), (9, 22, 7, 0), (9, 23, 0, 6), (9, 23, 6, 0), (9, 24, 0, 5), (9, 24, 5, 0), (10, 17, 11, 0), (10, 18, 0, 10), (10, 18, 10, 0), (10, 19, 0, 9), (10, 22, 0, 6), (10, 22, 6, 0), (10, 23, 0, 5), (10, 23, 5, 0), (11, 18, 0, 9), (11, 18, 9, 0), (11, 22, 0, 5), (11, 22, 5, 0), (12, 18, 8, 0), (14, 18, 6, 0), (15, 18, 5, 0), (16, 13, 0, 9)], [(1, 21, 0, 17), (1, 22, 0, 16), (1, 23, 0, 15), (1, 24, 0, 14), (1, 25, 0, 13), (1, 26, 0, 12), (1, 27, 0, 11), (1, 27, 5, 6), (1, 27, 6, 5), (1, 27, 11, 0), (1, 28, 0, 10), (1, 28, 5, 5), (1, 28, 10, 0), (1, 29, 0, 9), (1, 29, 9, 0), (1, 30, 0, 8), (1, 30, 8, 0), (1, 31, 0, 7), (1, 31, 7, 0), (1, 32, 0, 6), (1, 32, 6, 0), (1, 33, 0, 5), (1, 33, 5, 0), (2, 14, 0, 23), (2, 15, 0, 22), (2, 18, 0, 19), (2, 18, 19, 0), (2, 19, 0, 18), (2, 20, 0, 17), (2, 22, 0, 15), (2, 22, 5, 10), (2, 22, 6, 9), (2, 22, 15, 0), (2, 23, 0, 14), (2, 23, 5, 9), (2, 23, 14, 0), (2, 24, 0, 13), (2, 24, 13, 0), (2, 25, 0, 12), (2, 25, 12, 0), (2, 26, 0, 11), (2, 26, 5, 6), (2, 26, 6, 5), (2, 26, 11, 0), (2, 27, 0, 10), (2, 27, 5, 5), (2, 27, 10, 0), (2, 28, 0, 9), (2, 28, 9, 0), (2, 29, 0, 8), (2, 29, 8, 0), (2, 30, 0, 7), (2, 30, 7, 0), (2, 31, 0, 6), (2, 31, 6, 0), (2, 32, 0, 5), (2, 32, 5, 0), (3, 14, 0, 22), (3, 18, 0, 18), (3, 19, 0, 17), (3, 22, 0, 14), (3, 22, 5, 9), (3, 22, 14, 0), (3, 23, 0, 13), (3, 23, 13, 0), (3, 24, 0, 12), (3, 24, 12, 0), (3, 25, 0, 11), (3, 25, 11, 0), (3, 26, 0, 10), (3, 26, 10, 0), (3, 27, 0, 9), (3, 27, 9, 0), (3, 28, 0, 8), (3, 28, 8, 0), (3, 29, 0, 7), (3, 29, 7, 0), (3, 30, 0, 6), (3, 30, 6, 0), (3, 31, 0, 5), (3, 31, 5, 0), (4, 9, 0, 26), (4, 13, 0, 22), (4, 18, 0, 17), (4, 18, 8, 9), (4, 18, 17, 0), (4, 19, 0, 16), (4, 20, 0, 15), (4, 21, 0, 14), (4, 22, 0, 13), (4, 22, 8, 5), (4, 22, 13, 0), (4, 23, 0, 12), (4, 23, 12, 0), (4, 24, 0, 11), (4, 24, 11, 0), (4, 25, 0, 10), (4, 25, 10, 0), (4, 26, 0, 9), (4, 26, 9, 0), (4, 27, 0, 8), (4, 27, 8, 0), (4, 28, 0, 7), (4, 28, 7, 0), (4, 29, 0, 6), (4, 29, 6, 0), (4, 30, 0, 5), (4, 30, 5, 0), (5, 9, 25, 0), (5, 10, 24, 0), (5, 11, 23, 0), (5, 13, 21, 0), (5, 14, 20, 0), (5, 17, 17, 0), (5, 18, 0, 16), (5, 18, 6, 10), (5, 18, 7, 9), (5, 18, 11, 5), (5, 18, 16, 0), (5, 19, 0, 15), (5, 19, 6, 9), (5, 19, 15, 0), (5, 20, 0, 14), (5, 20, 14, 0), (5, 21, 0, 13), (5, 21, 13, 0), (5, 22, 0, 12), (5, 22, 6, 6), (5, 22, 7, 5), (5, 22, 12, 0), (5, 23, 0, 11), (5, 23, 6, 5), (5, 23, 11, 0), (5, 24, 0, 10), (5, 24, 10, 0), (5, 25, 0, 9), (5, 25, 9, 0), (5, 26, 0, 8), (5, 26, 8, 0), (5, 27, 0, 7), (5, 27, 7, 0), (5, 28, 0, 6), (5, 28, 6, 0), (5, 29, 0, 5), (5, 29, 5, 0), (6, 9, 24, 0), (6, 10, 23, 0), (6, 13, 20, 0), (6, 18, 0, 15), (6, 18, 6, 9), (6, 18, 15, 0), (6, 19, 0, 14), (6, 19, 14, 0), (6, 20, 0, 13), (6, 20, 13, 0), (6, 21, 12, 0), (6, 22, 0, 11), (6, 22, 6, 5), (6, 22, 11, 0), (6, 23, 0, 10), (6, 23, 10, 0), (6, 24, 0, 9), (6, 24, 9, 0), (6, 25, 8, 0), (6, 26, 0, 7), (6, 26, 7, 0), (6, 27, 0, 6), (6, 27, 6, 0), (6, 28, 0, 5), (6, 28, 5, 0), (7, 9, 0, 23), (7, 9, 23, 0), (7, 10, 0, 22), (7, 17, 0, 15), (7, 18, 0, 14), (7, 18, 5, 9), (7, 18, 14, 0), (7, 19, 0, 13), (7, 19, 13, 0), (7, 20, 0, 12), (7, 20, 12, 0), (7, 21, 0, 11), (7, 21, 11, 0), (7, 22, 0, 10), (7, 22, 5, 5), (7, 22, 10, 0), (7, 23, 0, 9), (7, 23, 9, 0), (7, 24, 0, 8), (7, 24, 8, 0), (7, 25, 0, 7), (7, 25, 7, 0), (7, 26, 0, 6), (7, 26, 6, 0), (7, 27, 0, 5), (7, 27, 5, 0), (8, 9, 0, 22), (8, 17, 0, 14), (8, 17, 14, 0), (8, 18, 0, 13), (8, 18, 13, 0), (8, 19, 0, 12), (8, 19, 12, 0), (8, 20, 0, 11), (8, 20, 11, 0), (8, 21, 0, 10), (8, 22, 0, 9), (8, 22, 9, 0), (8, 23, 0, 8), (8, 23, 8, 0), (8, 24, 0, 7), (8, 24, 7, 0), (8, 25, 0, 6), (8, 25, 6, 0), (8, 26, 0, 5), (8, 26, 5, 0), (9, 9, 21, 0), (9, 10, 20, 0), (9, 13, 17, 0), (9, 17, 0, 13), (9, 17, 13, 0), (9, 18, 0, 12), (9, 18, 12, 0), (9, 19, 0, 11), (9, 19, 11, 0), (9, 20, 0, 10), (9, 20, 10, 0), (9, 21, 0, 9), (9, 21, 9, 0), (9, 22, 0, 8), (9, 22, 8, 0), (9, 23, 0, 7), (9, 23, 7, 0), (9, 24, 0, 6), (9, 24, 6, 0), (9, 25, 0, 5), (9, 25, 5, 0), (10, 9, 20, 0), (10, 17, 12, 0), (10, 18, 0, 11), (10, 18, 11, 0), (10, 19, 0, 10), (10, 19, 10, 0), (10, 20, 0, 9), (10, 21, 8, 0), (10, 22, 0, 7), (10, 22, 7, 0), (10, 23, 0, 6), (10, 23, 6, 0), (10, 24, 0, 5), (10, 24, 5, 0), (11, 17, 11, 0), (11, 18, 0, 10), (11, 18, 10, 0), (11, 19, 0, 9), (11, 19, 9, 0), (11, 20, 8, 0), (11, 22, 0, 6), (11, 22, 6, 0), (11, 23, 0, 5), (11, 23, 5, 0), (12, 18, 0, 9), (12, 18, 9, 0), (12, 19, 8, 0), (12, 22, 0, 5), (12, 22, 5, 0), (13, 13, 0, 13), (13, 17, 0, 9), (13, 18, 8, 0), (14, 18, 7, 0), (14, 19, 6, 0), (15, 18, 6, 0), (15, 19, 5, 0), (16, 13, 0, 10), (16, 14, 0, 9), (16, 18, 0, 5), (16, 18, 5, 0), (17, 13, 0, 9)]]
def eL1 : List (List (Nat × Nat × Nat × Nat)) := [[], [], [], [], [], [], [], [], [], [], [], [], [], [], [], [], [], [], [], [], [], [], [], [], [], [], [], [], [], [], [], [], [], [(1, 18, 0, 6), (2, 14, 0, 9), (2, 18, 0, 5), (2, 18, 5, 0), (5, 9, 11, 0), (7, 9, 0, 9)], [], [(4, 18, 0, 5), (4, 18, 5, 0)], [], [(1, 19, 0, 9), (1, 22, 0, 6), (1, 22, 6, 0), (1, 23, 0, 5), (1, 23, 5, 0), (2, 18, 0, 9), (2, 22, 0, 5), (2, 22, 5, 0), (5, 18, 6, 0)], [(1, 22, 0, 7), (1, 23, 0, 6), (2, 18, 0, 10), (2, 19, 0, 9), (2, 22, 0, 6), (2, 22, 6, 0), (2, 23, 0, 5), (2, 23, 5, 0), (3, 18, 0, 9), (3, 22, 0, 5), (3, 22, 5, 0), (4, 18, 8, 0), (5, 18, 7, 0), (5, 19, 6, 0), (6, 18, 6, 0), (7, 18, 0, 5), (7, 18, 5, 0)], [(1, 21, 0, 9), (1, 22, 0, 8), (1, 23, 0, 7), (1, 24, 0, 6), (1, 25, 0, 5), (1, 25, 5, 0), (2, 18, 0, 11), (2, 18, 11, 0), (2, 19, 0, 10), (2, 20, 0, 9), (2, 22, 0, 7), (2, 22, 7, 0), (2, 23, 0, 6), (2, 23, 6, 0), (2, 24, 0, 5), (2, 24, 5, 0), (3, 18, 0, 10), (3, 19, 0, 9), (3, 22, 0, 6), (3, 22, 6, 0), (3, 23, 0, 5), (3, 23, 5, 0), (4, 18, 0, 9), (4, 18, 9, 0), (4, 19, 8, 0), (4, 22, 0, 5), (4, 22, 5, 0), (5, 18, 8, 0), (5, 19, 7, 0), (5, 20, 6, 0), (6, 18, 7, 0), (6, 19, 6, 0), (7, 18, 0, 6), (7, 18, 6, 0), (7, 19, 0, 5), (7, 19, 5, 0), (8, 18, 0, 5), (8, 18, 5, 0)], [(1, 18, 0, 13), (1, 21, 0, 10), (1, 22, 0, 9), (1, 23, 0, 8), (1, 24, 0, 7), (1, 25, 0, 6), (1, 25, 6, 0), (1, 26, 0, 5), (1, 26, 5, 0), (2, 18, 0, 12), (2, 18, 12, 0), (2, 19, 0, 11), (2, 19, 11, 0), (2, 20, 0, 10), (2, 21, 0, 9), (2, 22, 0, 8), (2, 22, 8, 0), (2, 23, 0, 7), (2, 23, 7, 0), (2, 24, 0, 6), (2, 24, 6, 0), (2, 25, 0, 5), (2, 25, 5, 0), (3, 18, 0, 11), (3, 18, 11, 0), (3, 19, 0, 10), (3, 20, 0, 9), (3, 22, 0, 7), (3, 22, 7, 0), (3, 23, 0, 6), (3, 23, 6, 0), (3, 24, 0, 5), (3, 24, 5, 0), (4, 18, 0, 10), (4, 18, 10, 0), (4, 19, 0, 9), (4, 19, 9, 0), (4, 20, 8, 0), (4, 22, 0, 6), (4, 22, 6, 0), (4, 23, 0, 5), (4, 23, 5, 0), (5, 9, 18, 0), (5, 13, 14, 0), (5, 14, 0, 13), (5, 18, 0, 9), (5, 18, 9, 0), (5, 19, 8, 0), (5, 20, 7, 0), (5, 21, 6, 0), (5, 22, 0, 5), (5, 22, 5, 0), (6, 18, 8, 0), (6, 19, 7, 0), (6, 20, 6, 0), (7, 18, 0, 7), (7, 18, 7, 0), (7, 19, 0, 6), (7, 19, 6, 0), (7, 20, 0, 5), (7, 20, 5, 0), (8, 13, 11, 0), (8, 18, 0, 6), (8, 18, 6, 0), (8, 19, 0, 5), (8, 19, 5, 0), (9, 9, 14, 0), (9, 18, 0, 5), (9, 18, 5, 0), (10, 9, 0, 13), (10, 13, 0, 9)], [(1, 9, 23, 0), (1, 10, 0, 22), (1, 18, 0, 14), (1, 19, 0, 13), (1, 21, 0, 11), (1, 22, 0, 10), (1, 23, 0, 9), (1, 24, 0, 8), (1, 25, 0, 7), (1, 25, 7, 0), (1, 26, 0, 6), (1, 26, 6, 0), (1, 27, 0, 5), (1, 27, 5, 0), (2, 9, 0, 22), (2, 14, 0, 17), (2, 18, 0, 13), (2, 18, 13, 0), (2, 19, 0, 12), (2, 19, 12, 0), (2, 20, 0, 11), (2, 20, 11, 0), (2, 21, 0, 10), (2, 22, 0, 9), (2, 22, 9, 0), (2, 23, 0, 8), (2, 23, 8, 0), (2, 24, 0, 7), (2, 24, 7, 0), (2, 25, 0, 6), (2, 25, 6, 0), (2, 26, 0, 5), (2, 26, 5, 0), (3, 18, 0, 12), (3, 18, 12, 0), (3, 19, 0, 11), (3, 19, 11, 0), (3, 20, 0, 10), (3, 21, 0, 9), (3, 22, 0, 8), (3, 22, 8, 0), (3, 23, 0, 7), (3, 23, 7, 0), (3, 24, 0, 6), (3, 24, 6, 0), (3, 25, 0, 5), (3, 25, 5, 0), (4, 16, 0, 13), (4, 18, 0, 11), (4, 18, 11, 0), (4, 19, 0, 10), (4, 19, 10, 0), (4, 20, 0, 9), (4, 20, 9, 0), (4, 21, 8, 0), (4, 22, 0, 7), (4, 22, 7, 0), (4, 23, 0, 6), (4, 23, 6, 0), (4, 24, 0, 5), (4, 24, 5, 0), (5, 5, 23, 0), (5, 9, 19, 0), (5, 10, 18, 0), (5, 13, 15, 0), (5, 14, 0, 14), (5, 14, 14, 0), (5, 15, 0, 13), (5, 17, 11, 0), (5, 18, 0, 10), (5, 18, 10, 0), (5, 19, 0, 9), (5, 19, 9, 0), (5, 20, 8, 0), (5, 21, 7, 0), (5, 22, 0, 6), (5, 22, 6, 0), (5, 23, 0, 5), (5, 23, 5, 0), (6, 9, 0, 18), (6, 9, 18, 0), (6, 13, 14, 0), (6, 14, 0, 13), (6, 18, 0, 9), (6, 18, 9, 0), (6, 19, 8, 0), (6, 20, 7, 0), (6, 21, 6, 0), (6, 22, 0, 5), (6, 22, 5, 0), (7, 9, 0, 17), (7, 13, 0, 13), (7, 17, 0, 9), (7, 18, 0, 8), (7, 18, 8, 0), (7, 19, 0, 7), (7, 19, 7, 0), (7, 20, 0, 6), (7, 20, 6, 0), (7, 21, 0, 5), (7, 21, 5, 0), (8, 13, 12, 0), (8, 14, 11, 0), (8, 17, 8, 0), (8, 18, 0, 7), (8, 18, 7, 0), (8, 19, 0, 6), (8, 19, 6, 0), (8, 20, 0, 5), (8, 20, 5, 0), (9, 9, 15, 0), (9, 10, 14, 0), (9, 13, 11, 0), (9, 18, 0, 6), (9, 18, 6, 0), (9, 19, 0, 5), (9, 19, 5, 0), (10, 9, 0, 14), (10, 9, 14, 0), (10, 10, 0, 13), (10, 13, 0, 10), (10, 14, 0, 9), (10, 18, 0, 5), (10, 18, 5, 0), (11, 9, 0, 13), (11, 13, 0, 9), (11, 17, 5, 0)], [], [], [], [], [], []]
def eL2 : List (List (Nat × Nat × Nat × Nat)) := [[], [], [], [], [], [], [], [], [], [], [], [], [], [], [], [], [], [], [], [], [], [], [], [], [], [], [], [], [], [], [], [], [], [], [], [], [(1, 18, 0, 9), (1, 22, 0, 5), (1, 22, 5, 0)], [], [], [], [(1, 22, 0, 9), (5, 22, 5, 0)], [(1, 22, 0, 10), (1, 23, 0, 9), (1, 27, 0, 5), (1, 27, 5, 0), (2, 22, 0, 9), (2, 26, 0, 5), (2, 26, 5, 0), (5, 22, 6, 0), (5, 23, 5, 0), (6, 22, 5, 0)], [(1, 22, 0, 11), (1, 23, 0, 10), (1, 24, 0, 9), (1, 27, 0, 6), (1, 27, 6, 0), (1, 28, 0, 5), (1, 28, 5, 0), (2, 22, 0, 10), (2, 22, 10, 0), (2, 23, 0, 9), (2, 26, 0, 6), (2, 26, 6, 0), (2, 27, 0, 5), (2, 27, 5, 0), (3, 22, 0, 9), (3, 26, 0, 5), (3, 26, 5, 0), (4, 21, 0, 9), (4, 22, 8, 0), (4, 25, 0, 5), (5, 18, 11, 0), (5, 22, 7, 0), (5, 23, 6, 0), (5, 24, 5, 0), (6, 22, 6, 0), (6, 23, 5, 0), (7, 18, 0, 9), (7, 22, 0, 5), (7, 22, 5, 0)], [], [], [], [], []]
theorem liz_k {L : LnT} {XR F W : FrT} {hv s2 κ wB y1 ob k k' q2 c : Nat} (hx : ∀ v ∈ frg XR k, ∃ w ∈ frg XR k', v.1 ≤ w.1 ∧ v.2 ≤ w.2) (hk : k ≤ k') (h : liz L XR F W hv s2 κ wB y1 ob k' q2 c = true) : liz L XR F W hv s2 κ wB y1 ob k q2 c = true := by
  unfold liz
  rw [List.all_eq_true]
  intro v hv'
  obtain ⟨w, hw, w1, w2⟩ := hx v hv'
  rw [List.all_eq_true]
  intro p hp
  rw [List.mem_range] at hp
  rw [List.all_eq_true]
  intro u hu
  unfold liz at h
  obtain ⟨s, hs, q⟩ := List.any_eq_true.mp (List.all_eq_true.mp (rng_all (List.all_eq_true.mp h w hw) (i := p) (by omega)) u hu)
  rw [List.any_eq_true]
  refine ⟨s, hs, ?_⟩
  unfold lsz at q ⊢
  rw [Bool.and_eq_true, Bool.and_eq_true, Bool.and_eq_true, Bool.and_eq_true, Bool.and_eq_true, Bool.and_eq_true, Bool.and_eq_true] at q ⊢
  obtain ⟨q1, q2, q3, q4, q5, q6, q7, q8⟩ := q
  have a1 := Nat.mul_le_mul_right y1 (show v.1 - p ≤ w.1 - p by omega)
  refine ⟨Nat.ble_eq_true_of_le (Nat.le_trans ?_ (Nat.le_of_ble_eq_true q1)), Nat.ble_eq_true_of_le (Nat.le_trans ?_ (Nat.le_of_ble_eq_true q2)), q3, q4, Nat.ble_eq_true_of_le (Nat.le_trans hk (Nat.le_of_ble_eq_true q5)), q6, q7, q8⟩
  · exact Nat.add_le_add_left (Nat.mul_le_mul_left _ (by omega)) _
  · omega
def xmo (T : FrT) : Bool := (List.range 41).all (fun j => (List.range (j + 1)).all (fun i => (frg T i).all (fun v => (frg T j).any (fun w => Nat.ble v.1 w.1 && Nat.ble v.2 w.2))))
theorem xmo_get {T : FrT} (h : xmo T = true) {i j : Nat} (hij : i ≤ j) (h40 : j ≤ 40) : ∀ v ∈ frg T i, ∃ w ∈ frg T j, v.1 ≤ w.1 ∧ v.2 ≤ w.2 := by
  intro v hv
  unfold xmo at h
  obtain ⟨w, hw, q⟩ := List.any_eq_true.mp (List.all_eq_true.mp (rng_all (rng_all h (i := j) (by omega)) (i := i) (by omega)) v hv)
  rw [Bool.and_eq_true] at q
  exact ⟨w, hw, Nat.le_of_ble_eq_true q.1, Nat.le_of_ble_eq_true q.2⟩
theorem xr1_mo : xmo xr1 = true := by decide +kernel
theorem xrq_mo : xmo xrq = true := by decide +kernel
/-- all bodies of lo to hi characters at once -/
def bsk (T : Nat → Nat → Bool) (E : Nat → Bool) : Nat → Nat → Nat → Bool
  | 0, _, _ => false
  | f + 1, lo, hi => T lo hi || (if Nat.beq lo hi then E lo else bsk T E f lo ((lo + hi) / 2) && bsk T E f ((lo + hi) / 2 + 1) hi)
theorem bsk_get {T : Nat → Nat → Bool} {E : Nat → Bool} : ∀ (f lo hi : Nat), bsk T E f lo hi = true → ∀ k, lo ≤ k → k ≤ hi → (∃ a b, a ≤ k ∧ k ≤ b ∧ lo ≤ a ∧ b ≤ hi ∧ T a b = true) ∨ E k = true
  | 0, lo, hi, h, _, _, _ => by cases h
  | f + 1, lo, hi, h, k, k1, k2 => by
    unfold bsk at h
    rw [Bool.or_eq_true] at h
    rcases h with h | h
    · exact Or.inl ⟨lo, hi, k1, k2, Nat.le_refl _, Nat.le_refl _, h⟩
    by_cases e : Nat.beq lo hi = true
    · rw [if_pos e] at h
      have e' := Nat.eq_of_beq_eq_true e
      have ek : k = lo := by omega
      rw [ek]
      exact Or.inr h
    · rw [if_neg e, Bool.and_eq_true] at h
      by_cases c : k ≤ (lo + hi) / 2
      · rcases bsk_get f lo _ h.1 k k1 c with ⟨a, b, q1, q2, q3, q4, q5⟩ | q
        · exact Or.inl ⟨a, b, q1, q2, q3, by omega, q5⟩
        · exact Or.inr q
      · rcases bsk_get f _ hi h.2 k (by omega) k2 with ⟨a, b, q1, q2, q3, q4, q5⟩ | q
        · exact Or.inl ⟨a, b, q1, q2, by omega, q4, q5⟩
        · exact Or.inr q
def zwR (L : LnT) (k be q1 q2 c : Nat) : Bool := liz L xr1 fr1 fg1 1 3 (kpz fr1 0 (max 1 (fx1.getD q1 0)) 0) (wbz fr1 1 (max 1 (fx1.getD q1 0)) be) (max 1 (fx1.getD q1 0)) (ojy k 0 q1 q2) k q2 c
def zwG (L : LnT) (k be q1 q2 c : Nat) : Bool := liz L xrq frq fgq 0 1 (kpz frq 1 (max 1 (fxq.getD q1 0)) 0) (wbz frq 0 (max 1 (fxq.getD q1 0)) be) (max 1 (fxq.getD q1 0)) (ojy k 0 q1 q2) k q2 c
theorem wbz_mo {F : FrT} {hv y1 be be' : Nat} (hF : frm F = true) (h1 : 1 ≤ be) (h : be ≤ be') (h40 : be' ≤ 40) : wbz F hv y1 be ≤ wbz F hv y1 be' := by
  have := Zx_ms hF (x := y1) (s := be + 2) (s' := be' + 2) (by omega) (by omega)
  unfold wbz
  by_cases e : Nat.beq be 1 = true
  · rw [if_pos e]
    by_cases e' : Nat.beq be' 1 = true
    · rw [if_pos e']; exact Nat.le_refl _
    · rw [if_neg e']; omega
  · rw [if_neg e, if_neg (fun e' => by
      have a1 := Nat.eq_of_beq_eq_true e'
      exact e (by rw [show be = 1 by omega]; rfl))]
    omega
theorem ojy_k {k k' q1 q2 : Nat} (h : k ≤ k') : ojy k 0 q1 q2 ≤ ojy k' 0 q1 q2 := by
  have a1 := lmx_mono fr1 (show min k (q1 - 9) ≤ min k' (q1 - 9) by omega)
  have a2 := lmx_mono fr1 (show min k (q2 - 9) ≤ min k' (q2 - 9) by omega)
  have a3 := lmx_mono fr1 (show min k (0 - 10) ≤ min k' (0 - 10) by omega)
  unfold ojy oj1
  omega
theorem zw_R {L : LnT} {k k' be be' q1 q2 c : Nat} (b1 : 1 ≤ be) (hb : be ≤ be') (hk : k ≤ k') (b40 : be' ≤ 40) (k40 : k' ≤ 40) (h : zwR L k' be' q1 q2 c = true) : zwR L k be q1 q2 c = true := by
  unfold zwR at h ⊢
  exact liz_k (xmo_get xr1_mo hk k40) hk (liz_mono (Nat.le_refl _) (wbz_mo fr1_m b1 hb b40) (ojy_k hk) h)
theorem zw_G {L : LnT} {k k' be be' q1 q2 c : Nat} (b1 : 1 ≤ be) (hb : be ≤ be') (hk : k ≤ k') (b40 : be' ≤ 40) (k40 : k' ≤ 40) (h : zwG L k' be' q1 q2 c = true) : zwG L k be q1 q2 c = true := by
  unfold zwG at h ⊢
  exact liz_k (xmo_get xrq_mo hk k40) hk (liz_mono (Nat.le_refl _) (wbz_mo frq_m b1 hb b40) (ojy_k hk) h)
def mem4 (l : List (Nat × Nat × Nat × Nat)) (be k q1 q2 : Nat) : Bool := l.any (fun a => Nat.beq be a.1 && (Nat.beq k a.2.1 && (Nat.beq q1 a.2.2.1 && Nat.beq q2 a.2.2.2)))
def ck4 (LR LG : LnT) (E : List (Nat × Nat × Nat × Nat)) (c : Nat) : Bool := (List.range (c - 8)).all (fun q1 => !(q05 q1) || (List.range (c - 8)).all (fun q2 => !(q05 q2) || (Nat.beq (q1 + q2) 0 || (Nat.ble (c - 9) (q1 + q2) || bsk (fun lo hi => zwR LR hi (c - 8 - q1 - q2 - lo) q1 q2 c && zwG LG hi (c - 8 - q1 - q2 - lo) q1 q2 c) (fun k => mem4 E (c - 8 - q1 - q2 - k) k q1 q2) 7 1 (c - 8 - q1 - q2 - 1)))))
theorem ck4_get {LR LG : LnT} {E : List (Nat × Nat × Nat × Nat)} {c be k q1 q2 : Nat} (h : ck4 LR LG E c = true) (p1 : 1 ≤ be) (p2 : 1 ≤ k) (o1 : q05 q1 = true) (o2 : q05 q2 = true) (nz : 1 ≤ q1 + q2) (ec : 8 + be + k + q1 + q2 = c) (h47 : c ≤ 47) : (zyR LR be k 0 q1 q2 && zyG LG be k 0 q1 q2) = true ∨ mem4 E be k q1 q2 = true := by
  unfold ck4 at h
  have q := rng_all h (i := q1) (by omega)
  rw [o1] at q
  have q := rng_all (show _ = true from q) (i := q2) (by omega)
  rw [o2] at q
  have q : (Nat.beq (q1 + q2) 0 || (Nat.ble (c - 9) (q1 + q2) || bsk (fun lo hi => zwR LR hi (c - 8 - q1 - q2 - lo) q1 q2 c && zwG LG hi (c - 8 - q1 - q2 - lo) q1 q2 c) (fun k => mem4 E (c - 8 - q1 - q2 - k) k q1 q2) 7 1 (c - 8 - q1 - q2 - 1))) = true := q
  rw [Bool.or_eq_true, Bool.or_eq_true] at q
  rcases q with q | q | q
  · have := Nat.eq_of_beq_eq_true q
    omega
  · have := Nat.le_of_ble_eq_true q
    omega
  rcases bsk_get _ _ _ q k p2 (by omega) with ⟨a, b, q1', q2', q3, q4, q5⟩ | q
  · left
    have q5 : (zwR LR b (c - 8 - q1 - q2 - a) q1 q2 c && zwG LG b (c - 8 - q1 - q2 - a) q1 q2 c) = true := q5
    rw [Bool.and_eq_true] at q5
    have a1 := zw_R (be := be) (k := k) p1 (by omega) q2' (by omega) (by omega) q5.1
    have a2 := zw_G (be := be) (k := k) p1 (by omega) q2' (by omega) (by omega) q5.2
    unfold zwR at a1
    unfold zwG at a2
    unfold zyR zyG
    rw [show 8 + be + k + 0 + q1 + q2 = c by omega, a1, a2]
    rfl
  · right
    have q : mem4 E (c - 8 - q1 - q2 - k) k q1 q2 = true := q
    rw [show c - 8 - q1 - q2 - k = be by omega] at q
    exact q
theorem ck4a_31 : ck4 j0R j0G (eL0.getD 31 []) 31 = true := by decide +kernel
theorem ck4a_32 : ck4 j0R j0G (eL0.getD 32 []) 32 = true := by decide +kernel
theorem ck4a_33 : ck4 j0R j0G (eL0.getD 33 []) 33 = true := by decide +kernel
theorem ck4a_34 : ck4 j0R j0G (eL0.getD 34 []) 34 = true := by decide +kernel
theorem ck4a_35 : ck4 j0R j0G (eL0.getD 35 []) 35 = true := by decide +kernel
theorem ck4a_36 : ck4 j0R j0G (eL0.getD 36 []) 36 = true := by decide +kernel
theorem ck4a_37 : ck4 j0R j0G (eL0.getD 37 []) 37 = true := by decide +kernel
theorem ck4a_38 : ck4 j0R j0G (eL0.getD 38 []) 38 = true := by decide +kernel
theorem ck4a_39 : ck4 j0R j0G (eL0.getD 39 []) 39 = true := by decide +kernel
theorem ck4a_40 : ck4 j0R j0G (eL0.getD 40 []) 40 = true := by decide +kernel
theorem ck4a_41 : ck4 j0R j0G (eL0.getD 41 []) 41 = true := by decide +kernel
theorem ck4a_42 : ck4 j0R j0G (eL0.getD 42 []) 42 = true := by decide +kernel
theorem ck4a_43 : ck4 j0R j0G (eL0.getD 43 []) 43 = true := by decide +kernel
theorem ck4a_44 : ck4 j0R j0G (eL0.getD 44 []) 44 = true := by decide +kernel
theorem ck4a_45 : ck4 j0R j0G (eL0.getD 45 []) 45 = true := by decide +kernel
theorem ck4a_46 : ck4 j0R j0G (eL0.getD 46 []) 46 = true := by decide +kernel
theorem ck4a_47 : ck4 j0R j0G (eL0.getD 47 []) 47 = true := by decide +kernel
theorem ck4a : ∀ (c : Nat), 31 ≤ c → c < 48 → ck4 j0R j0G (eL0.getD c []) c = true := by
  intro c h1 h2
  rcases (show c = 31 ∨ c = 32 ∨ c = 33 ∨ c = 34 ∨ c = 35 ∨ c = 36 ∨ c = 37 ∨ c = 38 ∨ c = 39 ∨ c = 40 ∨ c = 41 ∨ c = 42 ∨ c = 43 ∨ c = 44 ∨ c = 45 ∨ c = 46 ∨ c = 47 by omega) with rfl | rfl | rfl | rfl | rfl | rfl | rfl | rfl | rfl | rfl | rfl | rfl | rfl | rfl | rfl | rfl | rfl
  · exact ck4a_31
  · exact ck4a_32
  · exact ck4a_33
  · exact ck4a_34
  · exact ck4a_35
  · exact ck4a_36
  · exact ck4a_37
  · exact ck4a_38
  · exact ck4a_39
  · exact ck4a_40
  · exact ck4a_41
  · exact ck4a_42
  · exact ck4a_43
  · exact ck4a_44
  · exact ck4a_45
  · exact ck4a_46
  · exact ck4a_47
theorem ck4b_20 : ck4 j1R j1G (eL1.getD 20 []) 20 = true := by decide +kernel
theorem ck4b_21 : ck4 j1R j1G (eL1.getD 21 []) 21 = true := by decide +kernel
theorem ck4b_22 : ck4 j1R j1G (eL1.getD 22 []) 22 = true := by decide +kernel
theorem ck4b_23 : ck4 j1R j1G (eL1.getD 23 []) 23 = true := by decide +kernel
theorem ck4b_24 : ck4 j1R j1G (eL1.getD 24 []) 24 = true := by decide +kernel
theorem ck4b_25 : ck4 j1R j1G (eL1.getD 25 []) 25 = true := by decide +kernel
theorem ck4b_26 : ck4 j1R j1G (eL1.getD 26 []) 26 = true := by decide +kernel
theorem ck4b_27 : ck4 j1R j1G (eL1.getD 27 []) 27 = true := by decide +kernel
theorem ck4b_28 : ck4 j1R j1G (eL1.getD 28 []) 28 = true := by decide +kernel
theorem ck4b_29 : ck4 j1R j1G (eL1.getD 29 []) 29 = true := by decide +kernel
theorem ck4b_30 : ck4 j1R j1G (eL1.getD 30 []) 30 = true := by decide +kernel
theorem ck4b_31 : ck4 j1R j1G (eL1.getD 31 []) 31 = true := by decide +kernel
theorem ck4b_32 : ck4 j1R j1G (eL1.getD 32 []) 32 = true := by decide +kernel
theorem ck4b_33 : ck4 j1R j1G (eL1.getD 33 []) 33 = true := by decide +kernel
theorem ck4b_34 : ck4 j1R j1G (eL1.getD 34 []) 34 = true := by decide +kernel
theorem ck4b_35 : ck4 j1R j1G (eL1.getD 35 []) 35 = true := by decide +kernel
theorem ck4b_36 : ck4 j1R j1G (eL1.getD 36 []) 36 = true := by decide +kernel
theorem ck4b_37 : ck4 j1R j1G (eL1.getD 37 []) 37 = true := by decide +kernel
theorem ck4b_38 : ck4 j1R j1G (eL1.getD 38 []) 38 = true := by decide +kernel
theorem ck4b_39 : ck4 j1R j1G (eL1.getD 39 []) 39 = true := by decide +kernel
theorem ck4b_40 : ck4 j1R j1G (eL1.getD 40 []) 40 = true := by decide +kernel
theorem ck4b_41 : ck4 j1R j1G (eL1.getD 41 []) 41 = true := by decide +kernel
theorem ck4b : ∀ (c : Nat), 20 ≤ c → c < 42 → ck4 j1R j1G (eL1.getD c []) c = true := by
  intro c h1 h2
  rcases (show c = 20 ∨ c = 21 ∨ c = 22 ∨ c = 23 ∨ c = 24 ∨ c = 25 ∨ c = 26 ∨ c = 27 ∨ c = 28 ∨ c = 29 ∨ c = 30 ∨ c = 31 ∨ c = 32 ∨ c = 33 ∨ c = 34 ∨ c = 35 ∨ c = 36 ∨ c = 37 ∨ c = 38 ∨ c = 39 ∨ c = 40 ∨ c = 41 by omega) with rfl | rfl | rfl | rfl | rfl | rfl | rfl | rfl | rfl | rfl | rfl | rfl | rfl | rfl | rfl | rfl | rfl | rfl | rfl | rfl | rfl | rfl
  · exact ck4b_20
  · exact ck4b_21
  · exact ck4b_22
  · exact ck4b_23
  · exact ck4b_24
  · exact ck4b_25
  · exact ck4b_26
  · exact ck4b_27
  · exact ck4b_28
  · exact ck4b_29
  · exact ck4b_30
  · exact ck4b_31
  · exact ck4b_32
  · exact ck4b_33
  · exact ck4b_34
  · exact ck4b_35
  · exact ck4b_36
  · exact ck4b_37
  · exact ck4b_38
  · exact ck4b_39
  · exact ck4b_40
  · exact ck4b_41
theorem ck4n_20 : ck4 j2R j2G (eL2.getD 20 []) 20 = true := by decide +kernel
theorem ck4n_21 : ck4 j2R j2G (eL2.getD 21 []) 21 = true := by decide +kernel
theorem ck4n_22 : ck4 j2R j2G (eL2.getD 22 []) 22 = true := by decide +kernel
theorem ck4n_23 : ck4 j2R j2G (eL2.getD 23 []) 23 = true := by decide +kernel
theorem ck4n_24 : ck4 j2R j2G (eL2.getD 24 []) 24 = true := by decide +kernel
theorem ck4n_25 : ck4 j2R j2G (eL2.getD 25 []) 25 = true := by decide +kernel
theorem ck4n_26 : ck4 j2R j2G (eL2.getD 26 []) 26 = true := by decide +kernel
theorem ck4n_27 : ck4 j2R j2G (eL2.getD 27 []) 27 = true := by decide +kernel
theorem ck4n_28 : ck4 j2R j2G (eL2.getD 28 []) 28 = true := by decide +kernel
theorem ck4n_29 : ck4 j2R j2G (eL2.getD 29 []) 29 = true := by decide +kernel
theorem ck4n_30 : ck4 j2R j2G (eL2.getD 30 []) 30 = true := by decide +kernel
theorem ck4n_31 : ck4 j2R j2G (eL2.getD 31 []) 31 = true := by decide +kernel
theorem ck4n_32 : ck4 j2R j2G (eL2.getD 32 []) 32 = true := by decide +kernel
theorem ck4n_33 : ck4 j2R j2G (eL2.getD 33 []) 33 = true := by decide +kernel
theorem ck4n_34 : ck4 j2R j2G (eL2.getD 34 []) 34 = true := by decide +kernel
theorem ck4n_35 : ck4 j2R j2G (eL2.getD 35 []) 35 = true := by decide +kernel
theorem ck4n_36 : ck4 j2R j2G (eL2.getD 36 []) 36 = true := by decide +kernel
theorem ck4n_37 : ck4 j2R j2G (eL2.getD 37 []) 37 = true := by decide +kernel
theorem ck4n_38 : ck4 j2R j2G (eL2.getD 38 []) 38 = true := by decide +kernel
theorem ck4n_39 : ck4 j2R j2G (eL2.getD 39 []) 39 = true := by decide +kernel
theorem ck4n_40 : ck4 j2R j2G (eL2.getD 40 []) 40 = true := by decide +kernel
theorem ck4n_41 : ck4 j2R j2G (eL2.getD 41 []) 41 = true := by decide +kernel
theorem ck4n_42 : ck4 j2R j2G (eL2.getD 42 []) 42 = true := by decide +kernel
theorem ck4n : ∀ (c : Nat), 20 ≤ c → c < 43 → ck4 j2R j2G (eL2.getD c []) c = true := by
  intro c h1 h2
  rcases (show c = 20 ∨ c = 21 ∨ c = 22 ∨ c = 23 ∨ c = 24 ∨ c = 25 ∨ c = 26 ∨ c = 27 ∨ c = 28 ∨ c = 29 ∨ c = 30 ∨ c = 31 ∨ c = 32 ∨ c = 33 ∨ c = 34 ∨ c = 35 ∨ c = 36 ∨ c = 37 ∨ c = 38 ∨ c = 39 ∨ c = 40 ∨ c = 41 ∨ c = 42 by omega) with rfl | rfl | rfl | rfl | rfl | rfl | rfl | rfl | rfl | rfl | rfl | rfl | rfl | rfl | rfl | rfl | rfl | rfl | rfl | rfl | rfl | rfl | rfl
  · exact ck4n_20
  · exact ck4n_21
  · exact ck4n_22
  · exact ck4n_23
  · exact ck4n_24
  · exact ck4n_25
  · exact ck4n_26
  · exact ck4n_27
  · exact ck4n_28
  · exact ck4n_29
  · exact ck4n_30
  · exact ck4n_31
  · exact ck4n_32
  · exact ck4n_33
  · exact ck4n_34
  · exact ck4n_35
  · exact ck4n_36
  · exact ck4n_37
  · exact ck4n_38
  · exact ck4n_39
  · exact ck4n_40
  · exact ck4n_41
  · exact ck4n_42
def exl (e : Bool) (m be k q1 q2 : Nat) : Bool := mem4 ((if e then eL2 else if Nat.ble m 5 then eL0 else eL1).getD (8 + be + k + q1 + q2) []) be k q1 q2
theorem ci4_num {m be k q1 q2 : Nat} (p1 : 1 ≤ be) (p2 : 1 ≤ k) (o1 : q05 q1 = true) (o2 : q05 q2 = true) (nz : 1 ≤ q1 + q2) (m3 : 3 ≤ m) (h20 : 20 ≤ 8 + be + k + q1 + q2) (h47 : 8 + be + k + q1 + q2 ≤ 47) (hb : 8 + be + k + q1 + q2 + 5 + 2 * m ≤ 58) : az false m (8 + be + k + q1 + q2) = true ∨ B12z false m be k 0 q1 q2 = true ∨ exl false m be k q1 q2 = true := by
  by_cases m5 : m ≤ 5
  · have e5 : Nat.ble m 5 = true := Nat.ble_eq_true_of_le m5
    by_cases c30 : 8 + be + k + q1 + q2 ≤ 30
    · left
      unfold az
      rw [if_neg Bool.false_ne_true, Nat.ble_eq_true_of_le h20, Nat.ble_eq_true_of_le m3, e5, Nat.ble_eq_true_of_le c30]
      rfl
    rcases ck4_get (ck4a _ (by omega) (by omega)) p1 p2 o1 o2 nz rfl h47 with q | q
    · refine Or.inr (Or.inl ?_)
      unfold B12z
      rw [if_neg Bool.false_ne_true, if_pos e5]
      exact q
    · refine Or.inr (Or.inr ?_)
      unfold exl
      rw [if_neg Bool.false_ne_true, if_pos e5]
      exact q
  · have e5 : ¬ Nat.ble m 5 = true := fun q => m5 (Nat.le_of_ble_eq_true q)
    rcases ck4_get (ck4b _ h20 (by omega)) p1 p2 o1 o2 nz rfl h47 with q | q
    · refine Or.inr (Or.inl ?_)
      unfold B12z
      rw [if_neg Bool.false_ne_true, if_neg e5]
      exact q
    · refine Or.inr (Or.inr ?_)
      unfold exl
      rw [if_neg Bool.false_ne_true, if_neg e5]
      exact q
theorem eL1_low : (List.range 33).all (fun c => (eL1.getD c []).isEmpty) = true := by decide +kernel
theorem eL2_low : (List.range 33).all (fun c => (eL2.getD c []).isEmpty) = true := by decide +kernel
theorem mem4_low {E : List (List (Nat × Nat × Nat × Nat))} (h : (List.range 33).all (fun c => (E.getD c []).isEmpty) = true) {c be k q1 q2 : Nat} (hc : c < 33) (q : mem4 (E.getD c []) be k q1 q2 = true) : False := by
  have e := List.isEmpty_iff.mp (rng_all h hc)
  rw [e] at q
  cases q
theorem ci5_num {m be k q1 q2 : Nat} (p1 : 1 ≤ be) (p2 : 1 ≤ k) (o1 : q05 q1 = true) (o2 : q05 q2 = true) (nz : 1 ≤ q1 + q2) (m3 : 3 ≤ m) (h20 : 20 ≤ 8 + be + k + q1 + q2) (h47 : 8 + be + k + q1 + q2 ≤ 47) (hb : 8 + be + k + q1 + q2 + 2 * m ≤ 58) : az true m (8 + be + k + q1 + q2) = true ∨ B12z true m be k 0 q1 q2 = true ∨ (B13z m be k 0 q1 q2 = true ∧ 6 ≤ m) ∨ exl true m be k q1 q2 = true := by
  by_cases m7 : m ≤ 7
  · left
    unfold az
    rw [if_pos rfl, Nat.ble_eq_true_of_le h20, Nat.ble_eq_true_of_le m3, Nat.ble_eq_true_of_le m7, Nat.ble_eq_true_of_le h47]
    rfl
  have e8 : Nat.ble 8 m = true := Nat.ble_eq_true_of_le (by omega)
  by_cases c30 : 30 ≤ 8 + be + k + q1 + q2
  · rcases ck4_get (ck4n _ h20 (by omega)) p1 p2 o1 o2 nz rfl h47 with q | q
    · refine Or.inr (Or.inl ?_)
      unfold B12z
      rw [if_pos rfl, e8, Nat.ble_eq_true_of_le (show 30 ≤ 8 + be + k + 0 + q1 + q2 by omega), q]
      rfl
    · refine Or.inr (Or.inr (Or.inr ?_))
      unfold exl
      rw [if_pos rfl]
      exact q
  · refine Or.inr (Or.inr (Or.inl ⟨?_, by omega⟩))
    have el : Nat.blt (8 + be + k + 0 + q1 + q2) 30 = true := Nat.ble_eq_true_of_le (by omega)
    unfold B13z
    by_cases c58 : 8 + be + k + 0 + q1 + q2 + 5 + 2 * m ≤ 58
    · rw [el, if_pos (Nat.ble_eq_true_of_le c58), Bool.true_and]
      rcases ck4_get (ck4b _ h20 (by omega)) p1 p2 o1 o2 nz rfl h47 with q | q
      · exact q
      · exact (mem4_low eL1_low (by omega) q).elim
    · rw [el, if_neg (fun z => c58 (Nat.le_of_ble_eq_true z)), Bool.true_and]
      rcases ck4_get (ck4n _ h20 (by omega)) p1 p2 o1 o2 nz rfl h47 with q | q
      · exact q
      · exact (mem4_low eL2_low (by omega) q).elim

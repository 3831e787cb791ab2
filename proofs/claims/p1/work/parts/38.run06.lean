/-! single calls on fresh objects: runs of the kernel's machine (written by wip/mj/gen38.py) -/
theorem mr_t77 : mq_ts 1448 [.retAddr 0, .int 6, .retAddr 2, .retAddr 3, .retAddr 4] [14] 5 [.inl (.eq, true, .retAddr 5, .int 13), .inr (3, 5, .retAddr 0, .int 15)] = true := by decide +kernel
theorem mr_t78 : mq_ts 1448 [.retAddr 0, .int 7, .retAddr 2, .retAddr 3, .retAddr 4] [14] 5 [.inl (.eq, true, .retAddr 5, .int 13), .inr (3, 5, .retAddr 0, .int 15)] = true := by decide +kernel
theorem mr_t79 : mq_ts 1446 [.retAddr 0, .retAddr 1, .retAddr 2, .retAddr 3, .retAddr 4] [14, 0, 0] 5 [.inr (40, 7, .retAddr 1, .int 0), .inr (40, 7, .retAddr 1, .int 0), .inl (.eq, true, .retAddr 5, .int 13), .inr (3, 5, .retAddr 0, .int 15)] = true := by decide +kernel
theorem mr_t80 : mq_ts 1076 [.retAddr 0, .retAddr 1, .retAddr 2, .retAddr 3, .retAddr 4] [0] 5 [.inr (40, 13, .retAddr 5, .int 0), .inr (3, 5, .retAddr 0, .int 15)] = true := by decide +kernel
theorem mr_t81 : mq_ts 1062 [] [] 0 [] = true := by decide +kernel
theorem mr_t82 : mq_ts 1062 [.retAddr 0] [] 1 [] = true := by decide +kernel
theorem mr_t83 : mq_ts 1062 [.retAddr 0, .retAddr 1] [] 2 [] = true := by decide +kernel
theorem mr_t84 : mq_ts 1062 [.retAddr 0, .retAddr 1, .retAddr 2] [] 3 [] = true := by decide +kernel
theorem mr_t85 : mq_ts 1062 [.retAddr 0, .retAddr 1, .retAddr 2, .retAddr 3] [] 4 [] = true := by decide +kernel

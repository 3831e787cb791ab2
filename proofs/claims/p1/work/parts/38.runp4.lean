/-! pass on fresh objects: a run of the kernel's machine (written by wip/mj/gen38.py) -/
theorem mr_t31 : mq_ts 48846 [.retAddr 0, .int 4, .retAddr 2, .retAddr 3, .retAddr 4] [3] 5 [.inl (.eq, true, .retAddr 5, .int 2), .inr (3, 5, .retAddr 0, .int 15)] = true := by decide +kernel

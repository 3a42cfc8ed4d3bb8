/** Objects in the middle of their use, to show that a refused call changes nothing of all that. */
final class Kits {
    /** Every int that is no function: next to 0..3, far away, and next to them in the low bits. */
    static final int[] NO_FUNCTIONS = {-1, 4, 5, -4, 256, Integer.MIN_VALUE, Integer.MIN_VALUE + 1, Integer.MAX_VALUE};

    private Kits() {
    }

    /** Functions 0, 1 and 2 have bodies, the latest define was UNBOUND at 2, the latest run threw and had said two. */
    static OutcomeKit used() {
        OutcomeKit kit = Checks.kitWith(Code.give(Code.add(Code.var(0), Code.num(1))),
            Code.seq(Code.say(31), Code.say(Code.var(0)), Code.raise(2, 33)),
            Code.say(Code.call(3, Code.num(1))));
        Checks.refuse("used", kit, 2, OutcomeKit.UNBOUND, 2, Code.seq(Code.skip(), Code.leave(1)));
        Checks.outcomeOf(1, "used", kit, 32, OutcomeKit.THROWN, 33, 2, 31, 32);
        return kit;
    }

    /** The same with this in the draft. */
    static OutcomeKit usedWith(int[] draft) {
        OutcomeKit kit = used();
        Checks.feed(kit, draft);
        return kit;
    }

    /** Drafts of all sorts: empty, whole, cut off, too long, unbound, full and whole, full and cut off. */
    static int[][] drafts() {
        return new int[][] {{}, Code.say(41), Code.node(14, 0, Code.say(41)), Code.node(15, 0, Code.say(1)),
            Code.seq(Code.say(41), Code.leave(0)), Code.forty(Code.say(41)), Code.repeat(40, 14, 0)};
    }
}

import java.math.BigInteger;

/** "Terms": the draws and 1, PILLARS and SAINTS: each sentence at its last value within and its first beyond. */
public final class TermsPillarsTest extends Due {
    public static void main(String[] args) {
        calls();
        stateAtFirst();
        drawsWrap();
        drawsAgainstDies();
        pillars();
        tall();
        saints();
        age();
        faith();
        doctrine();
        hunger();
        dead();
        sitsOrNone();
        groundRow();
        newcomerBehindAll();
        climbFromNextLower();
        climbFromGround();
        climbFromFullGround();
        climbWithNobody();
        climbWhenFull();
        basket();
        weather();
        day();
        left();
        advice();
        finish("terms 1");
    }

    private static void calls() {
        by("An object is used for at most 512 calls");
        PillarSaints x = new PillarSaints();
        for (int i = 0; i < 511; i++) {
            x.state(i);
        }
        due("the 512th call", x.state(0), 510);
    }

    private static void stateAtFirst() {
        by("STATE of draws (an int, 0 at first)");
        PillarSaints x = new PillarSaints();
        due("look(9)", x.look(9), 0);
        due("state(MAX)", x.state(Integer.MAX_VALUE), 0);
        due("state(MIN)", x.state(Integer.MIN_VALUE), Integer.MAX_VALUE);
        due("state(0)", x.state(0), Integer.MIN_VALUE);
    }

    /** The next STATE without the machine's own wrap-around. */
    private static int nextState(int state) {
        return BigInteger.valueOf(state).multiply(BigInteger.valueOf(1664525)).add(BigInteger.valueOf(1013904223)).intValue();
    }

    private static int drawn(int state) {
        return (int) ((nextState(state) & 0xffffffffL) / 256 % 1000);
    }

    private static void drawsWrap() {
        by("it becomes 1664525 times itself + 1013904223 (ints, which wrap)");
        // the last STATES whose sum, and whose product alone, still fit an int, each with the first beyond
        int[] states = {0, 681, 682, 1290, 1291, -1, -1899, -1900, Integer.MAX_VALUE, Integer.MIN_VALUE, 1013904223, -775096599};
        for (int state : states) {
            PillarSaints x = calm("dies 1;", 1, 0);
            x.state(state);
            x.days(1);
            due("STATE behind a draw from " + state, x.look(9), nextState(state));
        }
    }

    private static int diesAt(int state, int dies) {
        PillarSaints x = calm("dies " + dies + ";", 1, 0);
        x.state(state);
        return x.days(1);
    }

    private static int stateThatDraws(int wanted, boolean negative) {
        for (int state = 0; state < 1000000; state++) {
            if (drawn(state) == wanted && nextState(state) < 0 == negative) {
                return state;
            }
        }
        throw new IllegalStateException("no state draws " + wanted);
    }

    private static void drawsAgainstDies() {
        by("then it is its highest 24 bits (without sign) modulo m; a DRAW of 1000: below it he is DEAD");
        for (int draw : new int[] {0, 1, 499, 500, 998, 999}) {
            for (int side = 0; side < 2; side++) {
                int state = stateThatDraws(draw, side == 1);
                if (draw > 0) {
                    due("died with a draw of " + draw + ", dies as much", diesAt(state, draw), 0);
                }
                due("died with a draw of " + draw + ", dies one more", diesAt(state, draw + 1), 1);
            }
        }
    }

    private static void pillars() {
        by("PILLARS 0 .. 9 as they come");
        PillarSaints x = new PillarSaints();
        for (int p = 0; p <= 9; p++) {
            due("pillar(" + (p + 1) + ")", x.pillar(p + 1), p);
        }
        due("the eleventh", x.pillar(11), -1);
        due("look(0)", x.look(0), 10);
        due("the last one's TALL", x.at(9, 0), 10);
        due("at(10, 0)", x.at(10, 0), -200);
    }

    private static void tall() {
        by("TALL 1 .. 99");
        PillarSaints x = new PillarSaints();
        due("pillar(0)", x.pillar(0), -1);
        due("pillar(1)", x.pillar(1), 0);
        due("pillar(99)", x.pillar(99), 1);
        due("pillar(100)", x.pillar(100), -1);
        due("at(0, 0)", x.at(0, 0), 1);
        due("at(1, 0)", x.at(1, 0), 99);
        due("to BUILD 0", x.act(3, 0, 0), false);
        due("to BUILD 99", x.act(3, 0, 99), true);
        due("to BUILD 1", x.act(3, 1, 1), true);
        due("to BUILD 100", x.act(3, 1, 100), false);
        due("at(0, 0)", x.at(0, 0), 99);
        due("at(1, 0)", x.at(1, 0), 1);
    }

    private static void saints() {
        by("SAINTS 0 .. 13 as they come");
        PillarSaints x = row(5, 5);
        for (int s = 0; s <= 13; s++) {
            due("saint", x.saint(s, 0, 0), s);
        }
        due("the fifteenth", x.saint(14, 0, 0), -1);
        due("look(1)", x.look(1), 14);
        due("the last one's AGE", x.of(13, 0), 13);
        due("of(14, 0)", x.of(14, 0), -100);
        due("on THE GROUND", x.look(7), 12);
    }

    /** A value's bounds, by saint() with it, by set(), and by what it is then. */
    private static void bounds(int what, int low, int high) {
        int[] beyond = {low - 1, high + 1, Integer.MIN_VALUE, Integer.MAX_VALUE};
        for (int v : beyond) {
            PillarSaints x = crowd(1, 7);
            int was = x.of(0, what);
            due("set(" + what + ", 0, " + v + ")", x.set(what, 0, v), false);
            due("of(0, " + what + ")", x.of(0, what), was);
            if (what < 3) {
                due("a saint with " + v, x.saint(what == 0 ? v : 1, what == 1 ? v : 1, what == 2 ? v : 1), -1);
                due("look(1)", x.look(1), 1);
            }
        }
        for (int v : new int[] {low, high}) {
            PillarSaints x = crowd(1, 7);
            due("set(" + what + ", 0, " + v + ")", x.set(what, 0, v), true);
            due("of(0, " + what + ")", x.of(0, what), v);
            if (what < 3) {
                due("a saint with " + v, x.saint(what == 0 ? v : 1, what == 1 ? v : 1, what == 2 ? v : 1), 1);
                due("of(1, " + what + ")", x.of(1, what), v);
            }
        }
    }

    private static void age() {
        by("AGE 0 .. 120");
        bounds(0, 0, 120);
    }

    private static void faith() {
        by("FAITH 0 .. 9");
        bounds(1, 0, 9);
    }

    private static void doctrine() {
        by("DOCTRINE -99 .. 99");
        bounds(2, -99, 99);
    }

    private static void hunger() {
        by("HUNGER 0 .. 99 (0 at first)");
        bounds(3, 0, 99);
        due("at first", crowd(1, 7).of(0, 3), 0);
    }

    private static void dead() {
        by("DEAD 0, 1 (0 at first)");
        PillarSaints x = calm("dies 1000 when doctrine=8;", 1, 7, 8);
        due("at first", x.of(0, 4), 0);
        due("at first", x.of(1, 4), 0);
        x.days(1);
        due("who lives", x.of(0, 4), 0);
        due("who died", x.of(1, 4), 1);
        due("a set", x.look(6), 2);
    }

    private static void sitsOrNone() {
        by("On each PILLAR sits a SAINT or none");
        PillarSaints x = crowd(2, 7);
        due("the highest", x.at(1, 1), 0);
        due("the lowest", x.at(0, 1), -1);
    }

    private static void groundRow() {
        by("who is neither DEAD nor on a PILLAR is on THE GROUND, in a row (who came first there is first)");
        PillarSaints x = calm("dies 1000 when doctrine=3;", 1, 1, 2, 3, 4);
        due("on the pillar", x.of(0, 6), -1);
        for (int s = 1; s < 4; s++) {
            due("of(" + s + ", 6)", x.of(s, 6), s - 1);
        }
        due("how many", x.look(7), 3);
        x.days(1);
        due("who died", x.of(2, 6), -1);
        due("ahead of him", x.of(1, 6), 0);
        due("behind him", x.of(3, 6), 1);
        due("how many", x.look(7), 2);
        x.act(2, 0, 0);
        due("who came up", x.of(1, 6), -1);
        due("who is first now", x.of(3, 6), 0);
        due("who came last", x.of(0, 6), 1);
    }

    private static void newcomerBehindAll() {
        by("A SAINT that comes is behind all on THE GROUND; then ALL CLIMB");
        PillarSaints x = crowd(1, 1, 2);
        x.saint(0, 0, 0);
        due("behind all", x.of(2, 6), 1);
        PillarSaints y = crowd(0, 1, 2);
        y.saint(0, 0, 0);
        due("without PILLARS", y.of(2, 6), 2);
        PillarSaints z = row(5, 5);
        z.saint(0, 0, 0);
        due("with an empty PILLAR", z.of(0, 5), 1);
        due("THE GROUND", z.look(7), 0);
    }

    private static void climbFromNextLower() {
        by("sits nobody there, the SAINT from the next lower PILLAR on which one sits comes there");
        PillarSaints x = calm("dies 1000 when doctrine=1 or doctrine=3;", 4, 1, 2, 3, 4);
        due("died", x.days(1), 2);
        due("the highest, from the next lower", x.at(3, 1), 1);
        due("the next, across an empty one", x.at(2, 1), 3);
        due("empty", x.at(1, 1), -1);
        due("empty", x.at(0, 1), -1);
        PillarSaints y = crowd(3, 1, 2, 3);
        y.pillar(9);
        for (int p = 3; p >= 1; p--) {
            due("one place up", y.at(p, 1), 3 - p);
        }
        due("empty", y.at(0, 1), -1);
    }

    private static void climbFromGround() {
        by("is there none lower, the first on THE GROUND");
        PillarSaints x = crowd(2, 1, 2, 3, 4);
        x.act(2, 1, 0);
        due("of PILLAR 0, the first on THE GROUND", x.at(0, 1), 2);
        due("the highest stays", x.at(1, 1), 0);
        x.act(2, 0, 0);
        due("the next lower goes ahead of THE GROUND", x.at(1, 1), 2);
        due("then the first on THE GROUND", x.at(0, 1), 3);
        PillarSaints y = calm("dies 1000 when place>0;", 2, 1, 2, 3, 4);
        due("died", y.days(1), 2);
        due("none lower: the first", y.at(1, 1), 2);
        due("then the second", y.at(0, 1), 3);
        due("THE GROUND", y.look(7), 0);
    }

    private static void climbFromFullGround() {
        by("all fourteen on THE GROUND");
        PillarSaints x = crowd(0, new int[14]);
        due("the last has all others ahead", x.of(13, 6), 13);
        due("a PILLAR", x.pillar(5), 0);
        due("the first came up", x.at(0, 1), 0);
        due("thirteen are left", x.look(7), 13);
        due("the next is first", x.of(1, 6), 0);
        due("the last", x.of(13, 6), 12);
        PillarSaints y = calm("dies 1000 when doctrine=1;", 0, 1, 0, 0, 0, 0, 0, 0, 0, 0, 0, 0, 0, 0, 1);
        due("the first and the last die", y.days(1), 2);
        due("twelve are left", y.look(7), 12);
        due("the next is first", y.of(1, 6), 0);
        due("who is last now", y.of(12, 6), 11);
        PillarSaints all = calm("dies 1000;", 0, new int[14]);
        due("all die", all.days(1), 14);
        due("none is left", all.look(7), 0);
    }

    private static void climbWithNobody() {
        by("ALL CLIMB: nobody on a PILLAR nor on THE GROUND");
        PillarSaints x = calm("dies 1000;", 2, 1);
        due("died", x.days(1), 1);
        due("nobody", x.at(1, 1), -1);
        due("nobody", x.at(0, 1), -1);
        int lines = x.look(8);
        due("a PILLAR more", x.pillar(9), 2);
        due("nobody comes", x.at(2, 1), -1);
        due("no line", x.look(8), lines);
    }

    private static void climbWhenFull() {
        by("ALL CLIMB: no PILLAR is empty");
        PillarSaints x = crowd(2, 1, 2);
        int lines = x.look(8);
        due("two came up", lines, 2);
        x.saint(0, 0, 0);
        due("no line", x.look(8), lines);
        due("nobody moved", x.at(1, 1), 0);
        due("nobody moved", x.at(0, 1), 1);
    }

    private static void basket() {
        by("BASKET 0 .. 999 loaves (0 at first)");
        PillarSaints x = new PillarSaints();
        due("at first", x.look(3), 0);
        due("SEND 998", x.act(0, 0, 998), true);
        due("SEND 1", x.act(0, 0, 1), true);
        due("just full", x.look(3), 999);
        due("SEND 1 more", x.act(0, 0, 1), true);
        due("999 at most", x.look(3), 999);
        due("SEND 999 more", x.act(0, 0, 999), true);
        due("999 at most", x.look(3), 999);
        PillarSaints y = new PillarSaints();
        y.act(0, 0, 500);
        y.act(0, 0, 500);
        due("one too many", y.look(3), 999);
    }

    private static void weather() {
        by("WEATHER 0 .. 9 (0 at first)");
        PillarSaints x = new PillarSaints();
        due("at first", x.look(5), 0);
        due("set(4, 0, 9)", x.set(4, 0, 9), true);
        due("set(4, 0, 10)", x.set(4, 0, 10), false);
        due("set(4, 0, -1)", x.set(4, 0, -1), false);
        due("look(5)", x.look(5), 9);
        due("set(4, 0, 0)", x.set(4, 0, 0), true);
        due("look(5)", x.look(5), 0);
    }

    private static void day() {
        by("DAY 0 .. 9999 (0 at first)");
        PillarSaints x = new PillarSaints();
        due("at first", x.look(2), 0);
        for (int i = 0; i < 166; i++) {
            x.days(60);
        }
        due("days(38)", x.days(38), 0);
        due("days(2)", x.days(2), -1);
        due("look(2)", x.look(2), 9998);
        due("days(1)", x.days(1), 0);
        due("look(2)", x.look(2), 9999);
        due("days(1)", x.days(1), -1);
        due("days(60)", x.days(60), -1);
        due("look(2)", x.look(2), 9999);
        due("what can be undone", x.look(15), 6);
        due("in thought a DAY more", x.goes(1, 0), 0);
    }

    private static void left() {
        by("LEFT (loaves that came down to nobody, an int, 0 at first)");
        PillarSaints x = new PillarSaints();
        due("at first", x.look(4), 0);
        for (int i = 1; i <= 40; i++) {
            x.act(0, 0, 999);
            x.days(1);
            due("LEFT", x.look(4), 999 * i);
        }
    }

    private static void advice() {
        by("ADVICE: on each PILLAR a number -99 .. 99 or none (none at first)");
        PillarSaints x = crowd(2, 1);
        due("at first", x.at(0, 2), -100);
        due("at first", x.at(1, 2), -100);
        due("to SAY -100", x.act(1, 0, -100), false);
        due("none", x.at(1, 2), -100);
        due("to SAY -99", x.act(1, 0, -99), true);
        due("least", x.at(1, 2), -99);
        due("to SAY 100", x.act(1, 0, 100), false);
        due("as it was", x.at(1, 2), -99);
        due("to SAY 99", x.act(1, 0, 99), true);
        due("greatest", x.at(1, 2), 99);
        due("none below", x.at(0, 2), -100);
    }
}

/** Each promise: the last calls that are within, the first that are refused, and that those change nothing. */
public final class RefusalsTest extends Due {
    private static final int MIN = Integer.MIN_VALUE;
    private static final int MAX = Integer.MAX_VALUE;

    private interface Call {
        int on(PillarSaints x);
    }

    private interface Desert {
        PillarSaints make();
    }

    public static void main(String[] args) {
        newObject();
        state();
        pillar();
        saint();
        set();
        act();
        days();
        feed();
        end();
        text();
        fault();
        of();
        at();
        sky();
        book();
        goes();
        loaves();
        heir();
        comes();
        scandal();
        middle();
        follows();
        gives();
        seen();
        hears();
        build();
        builds();
        gone();
        lap();
        game();
        undo();
        image();
        look();
        finish("refusals");
    }

    private static int one(boolean b) {
        return b ? 1 : 0;
    }

    /** Four pillars, six saints of whom one is dead, all texts, builds, an image, six to undo, a fault and a tape. */
    private static PillarSaints rich() {
        PillarSaints x = row(30, 10, 20, 10);
        int[] doctrines = {8, -20, 50, 0, 99, -99};
        for (int s = 0; s < doctrines.length; s++) {
            x.saint(40 + s, s, doctrines[s]);
        }
        told(x, 0, "eats 2 when place>1;dies 1000 when doctrine=99;dies 1;");
        told(x, 1, "day 0 is 3;day 5 is 8;");
        told(x, 2, "on 1 loaves 9;on 2 say 5;on 6 down 0;");
        told(x, 3, "0 and 1 so 2;2 so 3;3 so 3;");
        x.build(5, 10);
        x.build(2, 3);
        x.build(4, 12);
        x.state(12345);
        x.act(0, 0, 5);
        x.days(1);
        x.image(true);
        x.act(1, 0, 60);
        x.act(2, 0, 0);
        x.act(3, 1, 77);
        x.days(1);
        x.act(0, 0, 7);
        x.act(1, 0, -9);
        told(x, 1, "day 1000 is 1;");
        tape(x, "eats 9; day");
        return x;
    }

    /** Ten pillars and fourteen saints, and nothing else. */
    private static PillarSaints full() {
        PillarSaints x = crowd(10, 1, 2, 3, 4, 5, 6, 7, 8, 9, 10, 11, 12, 13, 14);
        x.act(0, 0, 5);
        return x;
    }

    /** Three views of all that a call could have changed, each on an object of its own: 512 calls are few. */
    private static String shown(PillarSaints x, int view) {
        StringBuilder b = new StringBuilder();
        if (view == 0) {
            states(x, b);
            for (int i = 0; i < x.look(8) && i < 60; i++) {
                b.append('|');
                for (int what = 0; what < 4; what++) {
                    b.append(x.book(i, what)).append(' ');
                }
            }
        } else if (view == 1) {
            thoughts(x, b);
            b.append("| fault ").append(x.fault(0)).append(' ').append(x.fault(1));
            b.append(" tape ").append(tapeLength(x));
        } else {
            for (int i = 0; i < 7; i++) {
                b.append("| undo ").append(x.undo()).append(' ');
                for (int what = 0; what <= 15; what++) {
                    b.append(x.look(what)).append(' ');
                }
            }
            b.append("| tape ").append(x.text(0)).append(' ').append(x.fault(0)).append(' ').append(x.fault(1));
            b.append("| image ").append(x.image(false)).append(' ');
            states(x, b);
        }
        return b.toString();
    }

    private static int tapeLength(PillarSaints x) {
        int fed = x.feed(0, 0, 0, 0, 0);
        int length = 400;
        while (fed == -1 && !x.end(length)) {
            length--;
        }
        return fed == -1 ? length : fed - 20;
    }

    private static void states(PillarSaints x, StringBuilder b) {
        for (int what = 0; what <= 15; what++) {
            b.append(x.look(what)).append(' ');
        }
        for (int s = 0; s < x.look(1); s++) {
            b.append('|');
            for (int what = 0; what < 10; what++) {
                b.append(x.of(s, what)).append(' ');
            }
        }
        for (int p = 0; p < x.look(0); p++) {
            b.append('|').append(x.at(p, 0)).append(' ').append(x.at(p, 1)).append(' ').append(x.at(p, 2)).append(' ');
        }
    }

    private static void thoughts(PillarSaints x, StringBuilder b) {
        for (int what = 0; what < 4; what++) {
            b.append(x.goes(1, what)).append(' ').append(x.goes(9, what)).append(' ');
        }
        b.append(x.loaves()).append(' ').append(x.heir(0)).append(' ').append(x.heir(3)).append(' ').append(x.comes(5, 0)).append(' ');
        for (int what = 0; what < 2; what++) {
            b.append(x.scandal(what)).append(' ').append(x.middle(what)).append(' ').append(x.game(what)).append(' ');
            b.append(x.gives(3, what)).append(' ').append(x.lap(0, 3, 20, what)).append(' ').append(x.hears(1, what)).append(' ');
        }
        b.append(x.gives(0, 2)).append(' ').append(x.follows(3)).append(' ').append(x.gone(5, 5, 5)).append(' ');
        b.append(x.seen(0)).append(' ').append(x.seen(1)).append(' ').append(x.seen(2)).append(' ').append(x.builds(0)).append(' ');
        for (int i = 0; i < 7; i++) {
            b.append(x.builds(10 + i)).append(' ').append(x.sky(i)).append(' ');
        }
    }

    /** The call answers as due and leaves all as it is without it. */
    private static void still(String call, Desert desert, int want, Call c) {
        for (int view = 0; view < 3; view++) {
            PillarSaints x = desert.make();
            due(call, c.on(x), want);
            due("behind " + call + " what there is", shown(x, view), shown(desert.make(), view));
        }
    }

    private static void refused(String call, int want, Call c) {
        still(call, RefusalsTest::rich, want, c);
    }

    private static int[] beyond(int low, int high) {
        return new int[] {low - 1, high + 1, MIN, MAX};
    }

    private static void newObject() {
        by("promise 1: a desert");
        PillarSaints x = new PillarSaints();
        for (int what = 0; what <= 15; what++) {
            due("look(" + what + ")", x.look(what), 0);
        }
        due("fault(0)", x.fault(0), 0);
        due("fault(1)", x.fault(1), -1);
        due("the TAPE is empty", x.end(1), false);
        due("the TAPE is empty", x.end(0), true);
        due("of(0, 0)", x.of(0, 0), -100);
        due("at(0, 0)", x.at(0, 0), -200);
        due("book(0, 0)", x.book(0, 0), -100);
        due("undo()", x.undo(), false);
        due("image(false)", x.image(false), false);
        due("days(1)", x.days(1), 0);
        due("NONE", PillarSaints.NONE, -1);
    }

    private static void state() {
        by("promise 2: STATE is told: what it was");
        for (int v : new int[] {0, -1, MIN, MAX}) {
            PillarSaints x = rich();
            int was = x.look(9);
            due("state(" + v + ")", x.state(v), was);
            due("look(9)", x.look(9), v);
        }
    }

    private static void pillar() {
        by("promise 3: NONE if one can't be, or there are ten");
        for (int tall : beyond(1, 99)) {
            refused("pillar(" + tall + ")", -1, x -> x.pillar(tall));
        }
        still("pillar(50) with ten", RefusalsTest::full, -1, x -> x.pillar(50));
        due("the tenth", crowd(9).pillar(50), 9);
        due("the eleventh", crowd(10).pillar(50), -1);
    }

    private static void saint() {
        by("promise 4: NONE if one can't be, or there are fourteen");
        for (int age : beyond(0, 120)) {
            refused("saint(" + age + ", 5, 5)", -1, x -> x.saint(age, 5, 5));
        }
        for (int faith : beyond(0, 9)) {
            refused("saint(5, " + faith + ", 5)", -1, x -> x.saint(5, faith, 5));
        }
        for (int doctrine : beyond(-99, 99)) {
            refused("saint(5, 5, " + doctrine + ")", -1, x -> x.saint(5, 5, doctrine));
        }
        still("saint(5, 5, 5) with fourteen", RefusalsTest::full, -1, x -> x.saint(5, 5, 5));
        due("the fourteenth", crowd(3, new int[13]).saint(5, 5, 5), 13);
        due("the fifteenth", crowd(3, new int[14]).saint(5, 5, 5), -1);
        PillarSaints dead = calm("dies 1000;", 1, new int[14]);
        dead.days(1);
        due("the DEAD count too", dead.saint(5, 5, 5), -1);
    }

    private static void set() {
        by("promise 5: false if one can't be, or another what");
        int[] low = {0, 0, -99, 0, 0};
        int[] high = {120, 9, 99, 99, 9};
        for (int what = 0; what < 5; what++) {
            int w = what;
            for (int v : beyond(low[w], high[w])) {
                refused("set(" + w + ", 0, " + v + ")", 0, x -> one(x.set(w, 0, v)));
            }
            due("set(" + w + ", 5, " + low[w] + ")", rich().set(w, 5, low[w]), true);
            due("set(" + w + ", 5, " + high[w] + ")", rich().set(w, 5, high[w]), true);
        }
        for (int what = 0; what < 4; what++) {
            int w = what;
            for (int who : beyond(0, 5)) {
                refused("set(" + w + ", " + who + ", 5)", 0, x -> one(x.set(w, who, 5)));
            }
        }
        for (int what : beyond(0, 4)) {
            refused("set(" + what + ", 0, 5)", 0, x -> one(x.set(what, 0, 5)));
        }
        for (int who : new int[] {-1, 6, MIN, MAX}) {
            due("WEATHER: who not asked", rich().set(4, who, 5), true);
        }
        due("WEATHER in an empty desert", new PillarSaints().set(4, 0, 5), true);
    }

    private static void act() {
        by("promise 6: false if it can't be (nobody to say it; not on a PILLAR), or another what");
        for (int v : beyond(1, 999)) {
            refused("act(0, 0, " + v + ")", 0, x -> one(x.act(0, 0, v)));
        }
        for (int v : beyond(-99, 99)) {
            refused("act(1, 0, " + v + ")", 0, x -> one(x.act(1, 0, v)));
        }
        for (int who : beyond(0, 5)) {
            refused("act(2, " + who + ", 0)", 0, x -> one(x.act(2, who, 0)));
            due("SEND: who not asked", rich().act(0, who, 1), true);
            due("SAY: who not asked", rich().act(1, who, 1), true);
            due("DOWN: v not asked", rich().act(2, 1, who), true);
        }
        refused("act(2) of one on THE GROUND", 0, x -> one(x.act(2, 0, 0)));
        refused("act(2) of one DEAD", 0, x -> one(x.act(2, 4, 0)));
        for (int who : beyond(0, 3)) {
            refused("act(3, " + who + ", 5)", 0, x -> one(x.act(3, who, 5)));
        }
        for (int v : beyond(1, 99)) {
            refused("act(3, 0, " + v + ")", 0, x -> one(x.act(3, 0, v)));
        }
        for (int what : beyond(0, 3)) {
            refused("act(" + what + ", 0, 5)", 0, x -> one(x.act(what, 0, 5)));
        }
        due("the last PILLAR", rich().act(3, 3, 5), true);
        still("nobody to say it", () -> row(5, 5), 0, x -> one(x.act(1, 0, 5)));
        still("nobody to say it", () -> crowd(0, 1, 2), 0, x -> one(x.act(1, 0, 5)));
        still("nobody to go down", () -> row(5, 5), 0, x -> one(x.act(2, -1, 0)));
        still("no PILLAR to build", () -> crowd(0, 1, 2), 0, x -> one(x.act(3, 0, 5)));
        for (int v : new int[] {1, 999}) {
            due("act(0, 0, " + v + ")", new PillarSaints().act(0, 0, v), true);
        }
        for (int v : new int[] {-99, 99}) {
            due("act(1, 0, " + v + ")", rich().act(1, 0, v), true);
        }
        for (int v : new int[] {1, 99}) {
            due("act(3, 0, " + v + ")", rich().act(3, 0, v), true);
        }
    }

    private static PillarSaints late() {
        PillarSaints x = calm("", 1, 5);
        for (int i = 0; i < 166; i++) {
            x.days(60);
        }
        x.act(0, 0, 4);
        return x;
    }

    private static void days() {
        by("promise 7: NONE, and nothing is done, if one can't be, or DAY would be above 9999");
        for (int n : beyond(1, 60)) {
            refused("days(" + n + ")", -1, x -> x.days(n));
        }
        PillarSaints x = calm("", 1, 5);
        due("days(1)", x.days(1), 0);
        due("look(2)", x.look(2), 1);
        due("days(60)", x.days(60), 0);
        due("look(2)", x.look(2), 61);
        still("days(40) from 9960", RefusalsTest::late, -1, y -> y.days(40));
        still("days(60) from 9960", RefusalsTest::late, -1, y -> y.days(60));
        PillarSaints last = late();
        due("days(39) from 9960", last.days(39), 0);
        due("look(2)", last.look(2), 9999);
        due("days(1) from 9999", last.days(1), -1);
        due("look(2)", last.look(2), 9999);
        by("promise 7: how many died");
        PillarSaints all = calm("dies 1000 when day>0;", 10, new int[14]);
        due("none", all.days(1), 0);
        due("all fourteen", all.days(1), 14);
        due("none is left to die", all.days(60), 0);
        PillarSaints each = calm("dies 1000 when place=1;", 1, 1, 2, 3);
        due("over all its DAYS", each.days(2), 2);
    }

    private static PillarSaints fed(int bytes) {
        PillarSaints x = rich();
        tape(x, "\n".repeat(bytes));
        return x;
    }

    private static void feed() {
        by("promise 8: NONE, and nothing comes, if there would be more than 400");
        due("from 0", fed(0).feed(0, 0, 0, 0, 0), 20);
        due("from 379", fed(379).feed(0, 0, 0, 0, 0), 399);
        due("from 380", fed(380).feed(0, 0, 0, 0, 0), 400);
        for (int bytes : new int[] {381, 399, 400}) {
            still("feed() from " + bytes, () -> fed(bytes), -1, x -> x.feed(0x78787878, 0x78787878, 0x78787878, 0x78787878, 0x78787878));
        }
        by("promise 8: twenty bytes, of each number the highest first");
        PillarSaints x = new PillarSaints();
        due("feed", x.feed(0x64617920, 0x3020690a, 0x73203900, -1, MIN), 20);
        due("text(1)", x.text(1), -1);
        due("the seventh and eighth sign", x.fault(1), 6);
        String signs = "day 7 is 8;day 9 is 1;day 3 is 2;day 4 is 5;";
        due("two lots and a part", told(x, 1, signs), 4);
        due("sky(7)", x.sky(7), 8);
        due("sky(4)", x.sky(4), 5);
        for (int place = 0; place < 20; place++) {
            PillarSaints y = new PillarSaints();
            tape(y, " ".repeat(place) + (char) 255 + " ".repeat(19 - place));
            y.text(0);
            due("the byte at " + place, y.fault(1), place);
        }
    }

    private static void end() {
        by("promise 9: false, changing nothing, if it has not so many, or n is below 0");
        for (int n : new int[] {12, 13, 400, 401, -1, MIN, MAX}) {
            refused("end(" + n + ")", 0, x -> one(x.end(n)));
        }
        refused("end(11) of eleven", 1, x -> one(x.end(11)));
        for (int n : new int[] {0, 1, 10}) {
            PillarSaints x = rich();
            due("end(" + n + ")", x.end(n), true);
            due("one more", x.end(n + 1), false);
        }
        due("end(400) of 400", fed(400).end(400), true);
        due("end(401) of 400", fed(400).end(401), false);
        due("end(0) of none", new PillarSaints().end(0), true);
        due("end(1) of none", new PillarSaints().end(1), false);
        PillarSaints x = new PillarSaints();
        tape(x, "eats 1;eats 2;");
        x.end(7);
        due("its first bytes alone", x.text(0), 1);
    }

    private static void text() {
        by("promise 10: NONE: no such one (fault() tells 0)");
        for (int k : beyond(0, 3)) {
            PillarSaints x = rich();
            due("text(" + k + ")", x.text(k), -1);
            due("fault(0)", x.fault(0), 0);
            due("fault(1)", x.fault(1), -1);
            due("the TAPE is empty then", x.end(1), false);
            due("the TAPE is empty then", x.feed(0, 0, 0, 0, 0), 20);
            still("text(" + k + ") beside an empty one", RefusalsTest::unfed, -1, y -> y.text(k));
        }
        by("promise 10: or a FAULT (it stays as it was)");
        String[] wrong = {"eats", "day", "on 0 fly;", "1 so 16;"};
        for (int k = 0; k < 4; k++) {
            PillarSaints x = rich();
            PillarSaints y = rich();
            due("text(" + k + ")", told(x, k, wrong[k]), -1);
            y.end(0);
            due("it stays as it was", shown(x, 0), shown(y, 0));
            due("the TAPE is empty then", x.end(1), false);
        }
        by("promise 10: The TAPE, empty then, is TEXT k: how many lines");
        for (int k = 0; k < 4; k++) {
            PillarSaints x = rich();
            due("an empty TAPE", told(x, k, ""), 0);
            due("lines", x.look(10 + k), 0);
            due("the TAPE", x.end(1), false);
        }
        PillarSaints x = new PillarSaints();
        due("text(0)", told(x, 0, "eats 1;"), 1);
        due("empty then", x.text(0), 0);
        due("so is THE LAW", x.look(10), 0);
    }

    private static PillarSaints unfed() {
        PillarSaints x = rich();
        x.text(4);
        return x;
    }

    private static void fault() {
        by("promise 11: NONE for another what");
        for (int what : beyond(0, 1)) {
            refused("fault(" + what + ")", -1, x -> x.fault(what));
        }
        refused("fault(0)", 2, x -> x.fault(0));
        refused("fault(1)", 4, x -> x.fault(1));
        by("promise 11: Of the latest text() the FAULT (0 without one), its place (NONE)");
        PillarSaints x = new PillarSaints();
        due("without any text()", x.fault(0), 0);
        due("without any text()", x.fault(1), -1);
        faulty(x, 1, "day 1000", 2, 4);
        fine(x, 0, "", 0);
        faulty(x, 0, " x", 1, 1);
        x.feed(0, 0, 0, 0, 0);
        x.end(0);
        x.days(1);
        due("the latest text() is still that", x.fault(0), 1);
        due("the latest text() is still that", x.fault(1), 1);
        fine(x, 3, "", 0);
    }

    private static void of() {
        by("promise 12: NONE - 99 if there is none such, or another what");
        for (int saint : beyond(0, 5)) {
            for (int what = 0; what < 10; what++) {
                int w = what;
                due("of(" + saint + ", " + w + ")", rich().of(saint, w), -100);
            }
            refused("of(" + saint + ", 0)", -100, x -> x.of(saint, 0));
        }
        for (int what : beyond(0, 9)) {
            refused("of(0, " + what + ")", -100, x -> x.of(0, what));
        }
        by("promise 12: 5 his PILLAR (NONE), 6 how many are ahead of him on THE GROUND (NONE: not there)");
        due("on THE GROUND: his PILLAR", rich().of(0, 5), -1);
        due("on THE GROUND: ahead", rich().of(0, 6), 0);
        due("on a PILLAR: his PILLAR", rich().of(1, 5), 3);
        due("on a PILLAR: ahead", rich().of(1, 6), -1);
        due("DEAD: his PILLAR", rich().of(4, 5), -1);
        due("DEAD: ahead", rich().of(4, 6), -1);
        due("the last", full().of(13, 6), 3);
    }

    private static void at() {
        by("promise 13: NONE - 199 if there is none such, or another what");
        for (int pillar : beyond(0, 3)) {
            for (int what = 0; what < 3; what++) {
                int w = what;
                refused("at(" + pillar + ", " + w + ")", -200, x -> x.at(pillar, w));
            }
        }
        for (int what : beyond(0, 2)) {
            refused("at(0, " + what + ")", -200, x -> x.at(0, what));
        }
        by("promise 13: 1 who sits there (NONE), 2 ADVICE (none: NONE - 99)");
        PillarSaints x = crowd(2, 5);
        due("nobody", x.at(0, 1), -1);
        due("he", x.at(1, 1), 0);
        due("none", x.at(1, 2), -100);
        x.act(1, 0, -99);
        due("the least", x.at(1, 2), -99);
        due("the last PILLAR", full().at(9, 0), 10);
        due("one beyond", full().at(10, 0), -200);
    }

    private static void sky() {
        by("promise 14: NONE if there is no line, or no such DAY (0 .. 9999)");
        PillarSaints x = new PillarSaints();
        fine(x, 1, "day 0 is 4;day 999 is 0;", 2);
        due("sky(-1)", x.sky(-1), -1);
        due("sky(0)", x.sky(0), 4);
        due("sky(1)", x.sky(1), -1);
        due("sky(998)", x.sky(998), -1);
        due("sky(999)", x.sky(999), 0);
        due("sky(1000)", x.sky(1000), -1);
        due("sky(9999)", x.sky(9999), -1);
        due("sky(10000)", x.sky(10000), -1);
        for (int day : beyond(0, 9999)) {
            refused("sky(" + day + ")", -1, y -> y.sky(day));
        }
        refused("sky(5)", 8, y -> y.sky(5));
    }

    private static void book() {
        by("promise 15: NONE - 99 if there is none such, or another what");
        int lines = rich().look(8);
        for (int i : beyond(0, lines - 1)) {
            for (int what = 0; what < 4; what++) {
                int w = what;
                refused("book(" + i + ", " + w + ")", -100, x -> x.book(i, w));
            }
        }
        for (int what : beyond(0, 3)) {
            refused("book(0, " + what + ")", -100, x -> x.book(0, what));
            refused("book(1, " + what + ")", -100, x -> x.book(1, what));
        }
        due("the first", rich().book(0, 0), 0);
        due("the last", rich().book(lines - 1, 0), 1);
        due("of none", new PillarSaints().book(0, 0), -100);
    }

    private static void goes() {
        by("promise 16: NONE - 99 if one can't be, or another what");
        for (int n : beyond(1, 60)) {
            refused("goes(" + n + ", 0)", -100, x -> x.goes(n, 0));
        }
        for (int what : beyond(0, 3)) {
            refused("goes(1, " + what + ")", -100, x -> x.goes(1, what));
        }
        by("promise 16: nothing of it stays");
        refused("goes(1, 0)", rich().goes(1, 0), x -> x.goes(1, 0));
        refused("goes(60, 2)", rich().goes(60, 2), x -> x.goes(60, 2));
    }

    private static void loaves() {
        by("promise 17: nothing of it stays");
        refused("loaves()", 7, x -> x.loaves());
        due("of none", new PillarSaints().loaves(), 0);
    }

    private static void heir() {
        by("promise 18: NONE if nobody, or n can't be");
        for (int n : beyond(0, 13)) {
            refused("heir(" + n + ")", -1, x -> x.heir(n));
            still("heir(" + n + ")", RefusalsTest::full, -1, x -> x.heir(n));
        }
        still("heir(13)", RefusalsTest::full, 13, x -> x.heir(13));
        still("heir(0)", RefusalsTest::full, 0, x -> x.heir(0));
        refused("the last who lives", 0, x -> x.heir(4));
        refused("nobody is left", -1, x -> x.heir(5));
        due("nobody", new PillarSaints().heir(0), -1);
    }

    private static void comes() {
        by("promise 19: NONE - 99 if none, or one can't be");
        for (int v : beyond(-99, 99)) {
            refused("comes(" + v + ", 0)", -100, x -> x.comes(v, 0));
        }
        for (int pillar : beyond(0, 3)) {
            refused("comes(5, " + pillar + ")", -100, x -> x.comes(5, pillar));
        }
        refused("comes(99, 3)", 99, x -> x.comes(99, 3));
        refused("comes(-99, 3)", -99, x -> x.comes(-99, 3));
        still("nobody", () -> row(5, 5), -100, x -> x.comes(5, 0));
        due("no PILLARS", crowd(0, 1).comes(5, 0), -100);
    }

    private static void scandal() {
        by("promise 20: NONE if fewer than two sit on PILLARS, or for another what");
        for (int what : beyond(0, 1)) {
            refused("scandal(" + what + ")", -1, x -> x.scandal(what));
        }
        for (int what = 0; what < 2; what++) {
            due("no PILLARS", crowd(0, 1, 2).scandal(what), -1);
            due("none", crowd(2).scandal(what), -1);
            due("one", crowd(1, 1, 2).scandal(what), -1);
            due("two", crowd(2, 1, 2).scandal(what), 1 - what);
        }
    }

    private static void middle() {
        by("promise 21: NONE without PILLARS, or for another what");
        for (int what : beyond(0, 1)) {
            refused("middle(" + what + ")", -1, x -> x.middle(what));
        }
        for (int what = 0; what < 2; what++) {
            due("without PILLARS", crowd(0, 1, 2).middle(what), -1);
            due("one", row(5).middle(what), 0);
        }
    }

    private static void follows() {
        by("promise 22: NONE if there are other bits");
        for (int set : new int[] {65536, 65537, 131072, 1 << 30, -1, MIN, MAX}) {
            refused("follows(" + set + ")", -1, x -> x.follows(set));
        }
        refused("follows(0)", 0, x -> x.follows(0));
        refused("follows(65535)", 65535, x -> x.follows(65535));
        refused("follows(3)", 15, x -> x.follows(3));
    }

    private static void gives() {
        by("promise 23: NONE if by none, there is no such TENET, or another what");
        for (int tenet : beyond(0, 15)) {
            refused("gives(" + tenet + ", 0)", -1, x -> x.gives(tenet, 0));
            refused("gives(" + tenet + ", 1)", -1, x -> x.gives(tenet, 1));
            refused("gives(" + tenet + ", 2)", 1, x -> x.gives(tenet, 2));
        }
        for (int what : beyond(0, 2)) {
            refused("gives(3, " + what + ")", -1, x -> x.gives(3, what));
        }
        refused("by none", -1, x -> x.gives(0, 0));
        refused("by none", -1, x -> x.gives(15, 1));
        refused("gives(3, 1)", 4, x -> x.gives(3, 1));
    }

    private static void seen() {
        by("promise 24: NONE for another what");
        for (int what : beyond(0, 2)) {
            refused("seen(" + what + ")", -1, x -> x.seen(what));
            due("of none", new PillarSaints().seen(what), -1);
        }
        for (int what = 0; what <= 2; what++) {
            due("of none", new PillarSaints().seen(what), 0);
        }
    }

    private static void hears() {
        by("promise 25: NONE if there is none such, or another what");
        for (int pillar : beyond(0, 3)) {
            refused("hears(" + pillar + ", 0)", -1, x -> x.hears(pillar, 0));
            refused("hears(" + pillar + ", 1)", -1, x -> x.hears(pillar, 1));
        }
        for (int what : beyond(0, 1)) {
            refused("hears(0, " + what + ")", -1, x -> x.hears(0, what));
        }
        due("alone: none", row(5).hears(0, 0), 0);
        due("alone: none", row(5).hears(0, 1), -1);
        due("the last", row(5, 5).hears(1, 1), 0);
    }

    private static PillarSaints seven() {
        PillarSaints x = rich();
        for (int i = 0; i < 4; i++) {
            x.build(3, 3);
        }
        return x;
    }

    private static void build() {
        by("promise 26: NONE if one can't be, or there are seven");
        for (int days : new int[] {0, 31, -2, MIN, MAX}) {
            refused("build(" + days + ", 5)", -1, x -> x.build(days, 5));
        }
        for (int worth : beyond(1, 30)) {
            refused("build(5, " + worth + ")", -1, x -> x.build(5, worth));
        }
        still("build(5, 5) with seven", RefusalsTest::seven, -1, x -> x.build(5, 5));
        for (int v : new int[] {1, 30}) {
            due("build(" + v + ", 5)", rich().build(v, 5), 4);
            due("build(5, " + v + ")", rich().build(5, v), 4);
        }
        by("promise 26: days NONE: none is then");
        for (int worth : new int[] {0, 1, 31, MIN, MAX}) {
            PillarSaints x = seven();
            due("build(NONE, " + worth + ")", x.build(-1, worth), 0);
            due("look(14)", x.look(14), 0);
            due("builds(0)", x.builds(0), 0);
        }
        still("of none", PillarSaints::new, 0, x -> x.build(-1, 1));
    }

    private static void builds() {
        by("promise 27: NONE if there is none such, or another what");
        for (int what : new int[] {-1, 1, 9, 13, 16, 17, MIN, MAX}) {
            refused("builds(" + what + ")", -1, x -> x.builds(what));
        }
        refused("the first", 2, x -> x.builds(10));
        refused("the last", 1, x -> x.builds(12));
        due("the seventh", seven().builds(16), 6);
        due("the eighth", seven().builds(17), -1);
    }

    private static void gone() {
        by("promise 28: NONE if one can't be");
        for (int p : beyond(0, 1000)) {
            refused("gone(" + p + ", 5, 5)", -1, x -> x.gone(p, 5, 5));
        }
        for (int n : beyond(0, 20)) {
            refused("gone(5, " + n + ", 40)", -1, x -> x.gone(5, n, 40));
        }
        for (int m : beyond(7, 40)) {
            refused("gone(5, 7, " + m + ")", -1, x -> x.gone(5, 7, m));
        }
        refused("gone(1000, 20, 40)", 1000000, x -> x.gone(1000, 20, 40));
        refused("gone(1000, 20, 20)", 1000000, x -> x.gone(1000, 20, 20));
    }

    private static void lap() {
        by("promise 29: NONE if there is no way, one can't be, or another what");
        for (int pillar : beyond(0, 3)) {
            for (int what = 0; what < 2; what++) {
                int w = what;
                refused("lap(" + pillar + ", 0, 5, " + w + ")", -1, x -> x.lap(pillar, 0, 5, w));
                refused("lap(0, " + pillar + ", 5, " + w + ")", -1, x -> x.lap(0, pillar, 5, w));
            }
        }
        for (int d : beyond(0, 99)) {
            refused("lap(0, 0, " + d + ", 0)", -1, x -> x.lap(0, 0, d, 0));
        }
        for (int what : beyond(0, 1)) {
            refused("lap(0, 0, 5, " + what + ")", -1, x -> x.lap(0, 0, 5, what));
        }
        refused("no way", -1, x -> x.lap(0, 1, 46, 0));
        refused("just a way", 1, x -> x.lap(0, 1, 47, 0));
        due("the last", rich().lap(3, 3, 0, 0), 0);
        due("the last", rich().lap(3, 3, 99, 1), 1);
    }

    private static void game() {
        by("promise 30: NONE if who begins loses, or for another what");
        for (int what : beyond(0, 1)) {
            refused("game(" + what + ")", -1, x -> x.game(what));
        }
        for (int what = 0; what < 2; what++) {
            int w = what;
            still("who begins loses", () -> crowd(2, 3, 2), -1, x -> x.game(w));
            due("nobody plays", new PillarSaints().game(w), -1);
            due("who begins wins", crowd(2, 3, 3).game(w), w);
        }
    }

    private static void undo() {
        by("promise 31: false if there is nothing");
        still("undo() of nothing", () -> crowd(2, 3, 2), 0, x -> one(x.undo()));
        PillarSaints x = rich();
        for (int i = 0; i < 6; i++) {
            due("undo()", x.undo(), true);
        }
        due("the seventh", x.undo(), false);
    }

    private static void image() {
        by("promise 32: false if there is none");
        still("image(false) of none", RefusalsTest::full, 0, x -> one(x.image(false)));
        PillarSaints x = full();
        due("image(true)", x.image(true), true);
        due("image(false)", x.image(false), true);
    }

    private static void look() {
        by("promise 33: NONE for another what");
        for (int what : beyond(0, 15)) {
            refused("look(" + what + ")", -1, x -> x.look(what));
        }
        int[] due = {4, 6, 2, 7, 9 - 7, 3, 16, 1, rich().look(8), rich().look(9), 3, 2, 3, 3, 3, 6};
        for (int what = 0; what <= 15; what++) {
            int w = what;
            refused("look(" + w + ")", due[w], x -> x.look(w));
        }
        due("all DEAD", allDead().look(6), 16383);
        due("STATE may be as NONE", stateNone().look(9), -1);
        due("most on THE GROUND", crowd(0, new int[14]).look(7), 14);
    }

    private static PillarSaints allDead() {
        PillarSaints x = calm("dies 1000;", 2, new int[14]);
        x.days(1);
        return x;
    }

    private static PillarSaints stateNone() {
        PillarSaints x = new PillarSaints();
        x.state(-1);
        return x;
    }
}

/** "Terms", 4, IN THOUGHT: each sentence at its last value within and its first beyond. */
public final class TermsThoughtTest extends Due {
    public static void main(String[] args) {
        diesInThought();
        goesDays();
        goesAnswers();
        loaves();
        heir();
        comes();
        scandal();
        scandalTies();
        middle();
        middleTies();
        follows();
        gives();
        givesTies();
        givesThatOneNot();
        idle();
        seen();
        storks();
        hears();
        hearsFarthest();
        buildsTold();
        buildsOrder();
        buildsTies();
        goneBounds();
        goneDownwards();
        lapSteps();
        lapWays();
        game();
        gameTies();
        undoKinds();
        undoSix();
        undoBook();
        undoForgets();
        undoForgetsNot();
        imageAll();
        imageNot();
        imageAgain();
        imageStands();
        finish("terms 4");
    }

    private static void diesInThought() {
        by("no DRAWS: he dies, if dies is 500 at least");
        due("499", calm("dies 499;", 1, 0).goes(1, 0), 0);
        due("500", calm("dies 500;", 1, 0).goes(1, 0), 1);
        due("1000", calm("dies 1000;", 1, 0).goes(1, 0), 1);
        PillarSaints x = calm("dies 499;", 1, 0);
        x.state(77);
        x.goes(60, 0);
        due("no DRAWS", x.look(9), 77);
    }

    private static void goesDays() {
        by("GOES for n (1 .. 60) DAYS");
        PillarSaints x = calm("dies 500 when day=0 and doctrine=1;dies 500 when day=59 and doctrine=2;", 2, 1, 2);
        due("goes(0, 0)", x.goes(0, 0), -100);
        due("goes(1, 0)", x.goes(1, 0), 1);
        due("goes(59, 0)", x.goes(59, 0), 1);
        due("goes(60, 0)", x.goes(60, 0), 2);
        due("goes(61, 0)", x.goes(61, 0), -100);
        due("nothing of it stays", x.look(6), 0);
        due("nothing of it stays", x.look(2), 0);
    }

    private static void goesAnswers() {
        by("how many are DEAD, LEFT, HUNGER of all not DEAD together, ADVICE on PILLAR 0 (none: 0) then");
        PillarSaints x = calm("dies 1000 when doctrine=1;", 2, 1, 2, 3, 4);
        x.set(3, 0, 50);
        x.act(0, 0, 30);
        due("days(1)", x.days(1), 1);
        due("who was DEAD already counts", x.goes(1, 0), 1);
        due("LEFT already counts", x.goes(1, 1), 30);
        due("HUNGER, not of one DEAD", x.goes(1, 2), 2);
        due("no ADVICE", x.goes(1, 3), 0);
        x.act(1, 0, -44);
        due("ADVICE", x.goes(1, 3), -44);
        due("forgotten then", x.goes(2, 3), 0);
        PillarSaints all = calm("", 0, new int[14]);
        for (int s = 0; s < 14; s++) {
            all.set(3, s, s == 0 || s == 13 ? 99 : 50);
        }
        due("HUNGER of all, from the first to the last", all.goes(1, 2), 99 + 99 + 12 * 51);
        due("AGE, FAITH and DOCTRINE as they are", calm("dies 500 when age=21 and faith=5 and doctrine=7;", 1, 7).goes(1, 0), 1);
        PillarSaints none = new PillarSaints();
        for (int what = 0; what < 4; what++) {
            due("in an empty desert", none.goes(60, what), 0);
        }
        PillarSaints late = new PillarSaints();
        for (int i = 0; i < 166; i++) {
            late.days(60);
        }
        late.days(39);
        late.act(0, 0, 7);
        due("from DAY 9999", late.goes(60, 1), 7);
    }

    private static void loaves() {
        by("LOAVES: the fewest that a BASKET needs now so that all on PILLARS take eats whole");
        due("nobody sits", row(5).loaves(), 0);
        due("without PILLARS", crowd(0, 1, 2).loaves(), 0);
        due("eats 0", calm("", 2, 1, 2).loaves(), 0);
        PillarSaints most = crowd(10, new int[14]);
        told(most, 0, "eats 99;");
        due("the most", most.loaves(), 990);
        for (int less = 0; less < 2; less++) {
            PillarSaints x = crowd(3, 1, 2, 3, 4);
            told(x, 0, "eats 2*place;dies 0;");
            due("loaves()", x.loaves(), 12);
            x.act(0, 0, 12 - less);
            x.days(1);
            due("LEFT", x.look(4), 0);
            due("HUNGER of the lowest", x.of(2, 3), 5 * less);
        }
    }

    private static void heir() {
        by("HEIR of n (0 .. 13)");
        PillarSaints x = crowd(10, new int[14]);
        due("heir(-1)", x.heir(-1), -1);
        for (int n = 0; n <= 13; n++) {
            due("heir(" + n + ")", x.heir(n), n);
        }
        due("heir(14)", x.heir(14), -1);
        due("nothing of it stays", x.look(6), 0);
        due("nothing of it stays", x.at(9, 1), 0);
        PillarSaints few = crowd(1, 1, 2);
        due("the last", few.heir(1), 1);
        due("nobody", few.heir(2), -1);
        due("nobody sits", row(5).heir(0), -1);
        due("no PILLAR to sit on", crowd(0, 1, 2).heir(0), -1);
        due("no PILLAR to sit on", crowd(0, 1, 2).heir(1), -1);
    }

    private static void comes() {
        by("COMES of ADVICE v (-99 .. 99) said now and a PILLAR (said at the highest on which one sits; above that: none)");
        PillarSaints x = calm("leans 9 when place=1;leans 0-10 when place=2;", 4, 1, 2, 3);
        due("of the highest itself", x.comes(99, 3), 99);
        due("one lower", x.comes(40, 2), 40);
        due("two lower", x.comes(40, 1), 38);
        due("nobody sits here: as it was", x.comes(40, 0), 38);
        due("held", x.comes(-98, 1), -99);
        due("v at least", x.comes(-99, 3), -99);
        due("v below", x.comes(-100, 3), -100);
        due("v above", x.comes(100, 3), -100);
        due("no such PILLAR", x.comes(5, 4), -100);
        due("no such PILLAR", x.comes(5, -1), -100);
        due("nothing of it stays", x.at(3, 2), -100);
        due("nobody sits", row(5, 5).comes(5, 0), -100);
        PillarSaints held = calm("leans 99;", 3, 1, 2, 3);
        due("held on each PILLAR", held.comes(98, 0), 99);
        due("it is as (d)", held.comes(77, 0), 99);
        due("it is as (d)", held.comes(76, 0), 98);
        // with nobody on the last PILLAR there could be none above who sits: all have climbed
        PillarSaints down = crowd(2, 5);
        due("on the last PILLAR he sits", down.comes(5, 1), 5);
    }

    private static void scandal() {
        by("SCANDAL: those on PILLARS, from the lowest up, parted at a place (one at least on each side) into two");
        due("nobody", row(5, 5).scandal(0), -1);
        due("one", crowd(2, 7).scandal(0), -1);
        due("one", crowd(1, 7, 9).scandal(1), -1);
        PillarSaints two = crowd(2, 99, -99);
        due("two", two.scandal(0), 1);
        due("two", two.scandal(1), 0);
        PillarSaints ten = crowd(10, 99, 0, 0, 0, 0, 0, 0, 0, 0, 0);
        due("all but one below", ten.scandal(0), 9);
        due("the sum", ten.scandal(1), 0);
        PillarSaints first = crowd(10, 0, 0, 0, 0, 0, 0, 0, 0, 0, -99);
        due("one below", first.scandal(0), 1);
        due("the sum", first.scandal(1), 0);
        PillarSaints worst = crowd(4, 99, -99, 99, -99);
        due("the worst", worst.scandal(1), 198);
        due("of several the fewest", worst.scandal(0), 1);
        PillarSaints gap = crowd(4, 5, 90);
        due("an empty PILLAR is not counted", gap.scandal(0), 1);
    }

    private static void scandalTies() {
        by("how many are below it (of several the fewest)");
        PillarSaints same = crowd(5, 3, 3, 3, 3, 3);
        due("all alike", same.scandal(0), 1);
        due("all alike", same.scandal(1), 0);
        // from the lowest up: 0 10 20: 10 either way
        PillarSaints even = crowd(3, 20, 10, 0);
        due("two places alike", even.scandal(0), 1);
        due("two places alike", even.scandal(1), 10);
        PillarSaints uneven = crowd(3, 21, 10, 0);
        due("the second is less", uneven.scandal(0), 2);
        due("the second is less", uneven.scandal(1), 10);
    }

    private static void middle() {
        by("MIDDLE: the PILLAR (0 .. 9) to which all on PILLARS would have the least way together by TALL (up or down)");
        due("without PILLARS", new PillarSaints().middle(0), -1);
        due("without PILLARS", new PillarSaints().middle(1), -1);
        due("nobody sits", row(5, 1).middle(0), 0);
        due("nobody sits", row(5, 1).middle(1), 0);
        PillarSaints last = row(1, 1, 1, 1, 1, 1, 1, 1, 1, 99);
        last.saint(0, 0, 0);
        due("the last", last.middle(0), 9);
        due("the last", last.middle(1), 0);
        PillarSaints x = row(50, 10, 99);
        x.saint(0, 0, 0);
        x.saint(0, 0, 0);
        due("where nobody sits", x.middle(0), 0);
        due("up and down", x.middle(1), 89);
        x.saint(0, 0, 0);
        due("all three", x.middle(0), 0);
        due("all three", x.middle(1), 89);
        PillarSaints low = row(10, 20, 21, 50);
        for (int s = 0; s < 4; s++) {
            low.saint(0, 0, 0);
        }
        due("who sits on the lowest counts", low.middle(0), 1);
        due("who sits on the lowest counts", low.middle(1), 10 + 1 + 30);
    }

    private static void middleTies() {
        by("of several the least");
        PillarSaints x = row(30, 20, 10);
        x.saint(0, 0, 0);
        x.saint(0, 0, 0);
        due("between, and at both", x.middle(0), 1);
        due("one more or less", x.middle(1), 10);
        PillarSaints y = row(20, 20, 20);
        y.saint(0, 0, 0);
        due("all alike", y.middle(0), 0);
        PillarSaints z = row(21, 20, 10);
        z.saint(0, 0, 0);
        z.saint(0, 0, 0);
        due("beyond is longer", z.middle(0), 1);
    }

    private static void follows() {
        by("FOLLOWS from a set of TENETS: all that follows by TENETS' lines (these too)");
        PillarSaints x = new PillarSaints();
        due("no lines", x.follows(0), 0);
        due("no lines", x.follows(65535), 65535);
        // each line only behind the next one: fifteen rounds for a plain search
        StringBuilder chain = new StringBuilder();
        for (int t = 14; t >= 0; t--) {
            chain.append(t).append(" so ").append(t + 1).append(';');
        }
        fine(x, 3, chain.toString(), 15);
        due("from the first all", x.follows(1), 65535);
        due("from the last it alone", x.follows(32768), 32768);
        due("from nothing nothing", x.follows(0), 0);
        fine(x, 3, "0 and 1 so 15;", 1);
        due("one of two", x.follows(1), 1);
        due("both of two", x.follows(3), 32771);
        due("other bits", x.follows(65536), -1);
        due("other bits", x.follows(65536 + 3), -1);
        due("other bits", x.follows(-1), -1);
        due("other bits", x.follows(Integer.MIN_VALUE), -1);
        due("other bits", x.follows(Integer.MAX_VALUE), -1);
    }

    private static PillarSaints held(String tenets, int lines) {
        PillarSaints x = new PillarSaints();
        fine(x, 3, tenets, lines);
        return x;
    }

    private static void gives(PillarSaints x, int tenet, int many, int set) {
        due("gives(" + tenet + ", 0)", x.gives(tenet, 0), many);
        due("gives(" + tenet + ", 1)", x.gives(tenet, 1), set);
    }

    private static void gives() {
        by("GIVES of a TENET: the fewest TENETS, that one not, from which it follows: how many; the set");
        gives(new PillarSaints(), 0, -1, -1);
        gives(held("0 so 15;", 1), 15, 1, 1);
        gives(held("0 so 15;", 1), 0, -1, -1);
        gives(held("15 so 0;", 1), 0, 1, 32768);
        gives(held("15 so 0;", 1), 16, -1, -1);
        gives(held("15 so 0;", 1), -1, -1, -1);
        gives(held("0 and 1 and 2 and 3 and 4 and 5 and 6 and 7 and 8 and 9 and 10 and 11 and 12 and 13 and 14 so 15;", 1),
                15, 15, 32767);
        gives(held("1 and 2 so 3;4 and 5 so 1;4 and 5 so 2;4 and 5 and 6 so 3;", 4), 3, 2, 6);
        gives(held("4 and 5 and 6 so 3;7 so 4;7 so 5;", 3), 3, 2, 64 + 128);
        gives(held("8 so 9;9 and 8 so 10;", 2), 10, 1, 256);
    }

    private static void givesTies() {
        by("of several the least");
        gives(held("4 so 0;3 so 0;5 so 0;", 3), 0, 1, 8);
        gives(held("1 and 9 so 0;2 and 3 so 0;", 2), 0, 2, 12);
        gives(held("1 and 9 so 0;2 and 10 so 0;3 and 8 so 0;", 3), 0, 2, 8 + 256);
        gives(held("1 and 2 and 3 so 0;14 and 15 so 0;", 2), 0, 2, 16384 + 32768);
        gives(held("2 and 3 so 0;1 and 3 so 0;1 and 2 so 0;", 3), 0, 2, 6);
        gives(held("0 so 1;1 so 2;2 so 3;", 3), 3, 1, 1);
        gives(held("2 so 3;1 so 2;0 so 1;", 3), 3, 1, 1);
    }

    private static void givesThatOneNot() {
        by("that one not");
        gives(held("3 so 3;", 1), 3, -1, -1);
        gives(held("3 and 4 so 3;", 1), 3, -1, -1);
        gives(held("3 so 4;4 so 3;", 2), 3, 1, 16);
        gives(held("3 so 4;4 and 5 so 3;", 2), 3, 2, 48);
    }

    private static void idle() {
        by("IDLE: lines of TENETS that tell nothing that does not follow by the others from the same (each alone against all others)");
        due("no lines", new PillarSaints().gives(0, 2), 0);
        due("one", held("0 so 1;", 1).gives(0, 2), 0);
        due("twice the same: each against the other", held("0 so 1;0 so 1;", 2).gives(0, 2), 2);
        due("sixteen the same", held("0 so 1;".repeat(16), 16).gives(0, 2), 16);
        due("of itself", held("0 so 0;", 1).gives(0, 2), 1);
        due("of itself and another", held("0 and 1 so 1;", 1).gives(0, 2), 1);
        due("by two others", held("0 so 2;0 so 1;1 so 2;", 3).gives(0, 2), 1);
        due("from more", held("0 and 1 so 2;0 so 2;", 2).gives(0, 2), 1);
        due("a ring", held("0 so 1;1 so 2;2 so 0;", 3).gives(0, 2), 0);
        due("tenet not asked", held("0 so 0;", 1).gives(Integer.MIN_VALUE, 2), 1);
        due("tenet not asked", held("0 so 0;", 1).gives(16, 2), 1);
    }

    private static void seen() {
        by("SEEN from an end: how many PILLARS are above all ahead of them");
        due("none", new PillarSaints().seen(0), 0);
        due("none", new PillarSaints().seen(1), 0);
        due("one", row(1).seen(0), 1);
        due("one", row(1).seen(1), 1);
        due("as tall is not above", row(5, 5).seen(0), 1);
        due("as tall is not above", row(5, 5).seen(1), 1);
        due("one taller", row(5, 6).seen(0), 2);
        due("one taller, from the last", row(5, 6).seen(1), 1);
        PillarSaints up = row(1, 2, 3, 4, 5, 6, 7, 8, 9, 10);
        due("all ten", up.seen(0), 10);
        due("the last alone", up.seen(1), 1);
        PillarSaints down = row(99, 98, 97, 96, 95, 94, 93, 92, 91, 90);
        due("the first alone", down.seen(0), 1);
        due("all ten", down.seen(1), 10);
        due("above all ahead, not the next alone", row(5, 1, 3).seen(0), 1);
    }

    private static void storks() {
        by("STORKS: PILLARS that are above each one beside them: a set");
        due("none", new PillarSaints().seen(2), 0);
        due("one: none beside", row(1).seen(2), 1);
        due("as tall", row(5, 5).seen(2), 0);
        due("the first", row(6, 5).seen(2), 1);
        due("the last", row(5, 6).seen(2), 2);
        due("both ends", row(6, 5, 6).seen(2), 5);
        due("as tall on one side", row(5, 6, 6, 5).seen(2), 0);
        due("of ten", row(2, 1, 2, 1, 2, 1, 2, 1, 1, 2).seen(2), 1 + 4 + 16 + 64 + 512);
    }

    private static void hears() {
        by("HEARS: they hear one another, if none between is as tall as the lower of both: how many PILLARS one hears");
        due("alone", row(5).hears(0, 0), 0);
        due("beside", row(5, 1).hears(0, 0), 1);
        due("one less between", row(5, 4, 9).hears(0, 0), 2);
        due("as tall between", row(5, 5, 9).hears(0, 0), 1);
        due("taller between", row(5, 6, 9).hears(0, 0), 1);
        due("the lower is the other", row(9, 4, 5).hears(0, 0), 2);
        due("the lower is the other", row(9, 5, 5).hears(0, 0), 1);
        due("across all", row(9, 8, 8, 8, 8, 8, 8, 8, 8, 9).hears(0, 0), 2);
        due("back across all", row(9, 8, 8, 8, 8, 8, 8, 8, 8, 9).hears(9, 1), 0);
    }

    private static void hearsFarthest() {
        by("HEARS: the farthest (of several the least number)");
        due("alone", row(5).hears(0, 1), -1);
        due("both sides as far", row(5, 5, 5).hears(1, 1), 0);
        due("both sides two away", row(5, 4, 5, 4, 5).hears(2, 1), 0);
        due("farther above", row(5, 5, 4, 5).hears(1, 1), 3);
        due("farther below", row(5, 4, 5, 5).hears(2, 1), 0);
        due("farther above, heard below too", row(9, 9, 5, 5, 4, 5).hears(3, 1), 5);
        due("farther below, heard above too", row(5, 4, 4, 5, 5, 9).hears(3, 1), 0);
        due("the last", row(9, 1, 1, 1, 1, 1, 1, 1, 1, 9).hears(0, 1), 9);
        due("from the last", row(1, 9, 1).hears(2, 1), 1);
    }

    private static void buildsTold() {
        by("BUILDS: up to 7 told PILLARS to be built (days 1 .. 30, worth 1 .. 30)");
        PillarSaints x = new PillarSaints();
        due("none told", x.builds(0), 0);
        due("none told", x.builds(10), -1);
        due("build(0, 1)", x.build(0, 1), -1);
        due("build(31, 1)", x.build(31, 1), -1);
        due("build(1, 0)", x.build(1, 0), -1);
        due("build(1, 31)", x.build(1, 31), -1);
        due("build(1, -1)", x.build(1, -1), -1);
        due("build(-2, 1)", x.build(-2, 1), -1);
        due("none told", x.look(14), 0);
        due("build(1, 1)", x.build(1, 1), 1);
        due("build(30, 30)", x.build(30, 30), 2);
        due("build(1, 30)", x.build(1, 30), 3);
        due("build(30, 1)", x.build(30, 1), 4);
        for (int i = 5; i <= 7; i++) {
            due("build(30, 30)", x.build(30, 30), i);
        }
        due("the eighth", x.build(1, 1), -1);
        due("seven", x.look(14), 7);
        due("the last", x.builds(16), 3);
        due("beyond", x.builds(17), -1);
        due("days NONE: none is then", x.build(-1, 1), 0);
        due("none", x.look(14), 0);
        due("none", x.builds(10), -1);
        due("from the first again", x.build(2, 3), 1);
        due("the sum", x.builds(0), 6);
        due("worth not asked", x.build(-1, Integer.MIN_VALUE), 0);
    }

    private static PillarSaints yard(int... told) {
        PillarSaints x = new PillarSaints();
        for (int i = 0; i < told.length; i += 2) {
            x.build(told[i], told[i + 1]);
        }
        return x;
    }

    private static void order(PillarSaints x, int sum, int... order) {
        due("builds(0)", x.builds(0), sum);
        for (int i = 0; i < order.length; i++) {
            due("builds(" + (10 + i) + ")", x.builds(10 + i), order[i]);
        }
        due("one beyond", x.builds(10 + order.length), -1);
    }

    private static void buildsOrder() {
        by("the order for which the sum of worth times the day at which one ends is least: that");
        order(yard(), 0);
        order(yard(30, 30), 900, 0);
        order(yard(30, 1, 1, 30), 30 + 31, 1, 0);
        order(yard(30, 30, 30, 30, 30, 30, 30, 30, 30, 30, 30, 30, 30, 30), 30 * 30 * 28, 0, 1, 2, 3, 4, 5, 6);
        order(yard(7, 1, 6, 1, 5, 1, 4, 1, 3, 1, 2, 1, 1, 1), 1 + 3 + 6 + 10 + 15 + 21 + 28, 6, 5, 4, 3, 2, 1, 0);
        order(yard(2, 3, 3, 5), 15 + 15, 1, 0);
    }

    private static void buildsTies() {
        by("the i-th: of several orders the first");
        order(yard(2, 2, 1, 1, 3, 3), 4 + 3 + 18, 0, 1, 2);
        order(yard(3, 3, 1, 2, 1, 1, 2, 2), 2 + 12 + 5 + 14, 1, 0, 2, 3);
        order(yard(2, 4, 1, 2), 8 + 6, 0, 1);
    }

    private static void goneBounds() {
        by("GONE of p (0 .. 1000) of a thousand: n (0 .. 20) lighter of m (n .. 40)");
        PillarSaints x = new PillarSaints();
        due("p 0", x.gone(0, 0, 0), 0);
        due("p 1000", x.gone(1000, 0, 0), 1000000);
        due("p -1", x.gone(-1, 0, 0), -1);
        due("p 1001", x.gone(1001, 0, 0), -1);
        due("n 0", x.gone(1, 0, 0), 1000);
        due("n -1", x.gone(1, -1, 0), -1);
        due("n 20", x.gone(0, 20, 20), 0);
        due("n 21", x.gone(0, 21, 21), -1);
        due("m n", x.gone(1000, 20, 20), 1000000);
        due("m below n", x.gone(1000, 20, 19), -1);
        due("m below n", x.gone(1000, 1, 0), -1);
        due("m 40", x.gone(1000, 20, 40), 1000000);
        due("m 41", x.gone(1000, 20, 41), -1);
        due("m -1", x.gone(1000, 0, -1), -1);
        due("m 40", x.gone(1000, 0, 40), 1000000);
        due("never of a million", x.gone(0, 0, 40), 0);
    }

    private static void goneDownwards() {
        by("n times q 8 by (q 8 + (a million less q) 2), of a million, downwards, then m less n times with 2 and 8");
        PillarSaints x = new PillarSaints();
        due("8 by 8 and 2", x.gone(500, 1, 1), 800000);
        due("2 by 2 and 8", x.gone(500, 0, 1), 200000);
        due("64 by 64 and 4", x.gone(500, 2, 2), 941176);
        due("lighter first", x.gone(500, 1, 2), 500000);
        due("downwards each time", x.gone(500, 2, 4), 499996);
        due("downwards to none", x.gone(1, 0, 6), 0);
        due("one ahead of that", x.gone(1, 0, 5), 0);
        due("still some", x.gone(1, 0, 4), 3);
        due("close to a million", x.gone(999, 20, 20), 999999);
        due("back from there", x.gone(1, 20, 40), 0);
    }

    private static void lapSteps() {
        by("LAP: from one to another one, if their TALL is d (0 .. 99) apart at most and they are one or two places apart: the fewest steps");
        PillarSaints x = row(1, 99, 50, 50, 90);
        due("d -1", x.lap(2, 3, -1, 0), -1);
        due("d 0", x.lap(2, 3, 0, 0), 1);
        due("d 99", x.lap(0, 1, 99, 0), 1);
        due("d 100", x.lap(0, 1, 100, 0), -1);
        due("d just", x.lap(3, 4, 40, 0), 1);
        due("d one less", x.lap(3, 4, 39, 0), -1);
        due("two places", x.lap(0, 2, 99, 0), 1);
        due("three places", x.lap(0, 3, 99, 0), 2);
        due("back", x.lap(4, 1, 99, 0), 2);
        due("to itself", x.lap(4, 4, 0, 0), 0);
        due("no way on", x.lap(0, 4, 48, 0), -1);
        due("just a way", x.lap(0, 4, 49, 0), 2);
        PillarSaints ten = row(5, 5, 5, 5, 5, 5, 5, 5, 5, 5);
        due("across ten", ten.lap(0, 9, 0, 0), 5);
        // along every second PILLAR, then one place, and back on the others
        PillarSaints round = row(10, 99, 20, 90, 30, 80, 40, 70, 50, 60);
        due("the longest way", round.lap(0, 1, 10, 0), 9);
        due("the longest way", round.lap(1, 0, 10, 1), 1);
        due("too low for one of its steps", round.lap(0, 1, 9, 0), -1);
    }

    private static void lapWays() {
        by("in how many ways so few (modulo 1000000007)");
        PillarSaints ten = row(5, 5, 5, 5, 5, 5, 5, 5, 5, 5);
        due("to itself", ten.lap(9, 9, 0, 1), 1);
        due("one step", ten.lap(0, 1, 0, 1), 1);
        due("one step of two places", ten.lap(0, 2, 0, 1), 1);
        due("two steps", ten.lap(0, 3, 0, 1), 2);
        due("two steps of two", ten.lap(0, 4, 0, 1), 1);
        due("across ten", ten.lap(0, 9, 0, 1), 5);
        due("back across ten", ten.lap(9, 0, 0, 1), 5);
        due("no way", row(1, 99).lap(0, 1, 97, 1), -1);
        due("just a way", row(1, 99).lap(0, 1, 98, 1), 1);
    }

    private static void game() {
        by("GAME: from DOCTRINE of those on PILLARS (without sign) two by turns take 1 up to the PILLAR's number and 1 of one");
        due("no PILLARS", new PillarSaints().game(0), -1);
        due("nobody sits", row(5).game(0), -1);
        due("nothing to take", crowd(1, 0).game(0), -1);
        due("one to take", crowd(1, 1).game(0), 0);
        due("one to take", crowd(1, -1).game(1), 1);
        due("two, one at a time", crowd(1, 2).game(0), -1);
        due("the most that can be", crowd(1, -99).game(1), 1);
        // the highest PILLAR is 9: 1 up to 10 of it
        PillarSaints ten = crowd(10, 10);
        due("all ten at once", ten.game(0), 9);
        due("all ten at once", ten.game(1), 10);
        due("eleven: who begins loses", crowd(10, 11).game(0), -1);
        due("eleven: who begins loses", crowd(10, -11).game(1), -1);
        due("twelve", crowd(10, 12).game(1), 1);
        due("ninety-nine", crowd(10, 99).game(0), -1);
        due("ninety-eight", crowd(10, 98).game(1), 10);
        due("THE GROUND plays not", crowd(1, 0, 5).game(0), -1);
    }

    private static void gameTies() {
        by("the PILLAR (of several the least), how many (the fewest) who begins well takes");
        // PILLARS 2, 1, 0 with 1, 1, 1: one from any of them
        PillarSaints x = crowd(3, 1, 1, 1);
        due("the least PILLAR", x.game(0), 0);
        due("how many", x.game(1), 1);
        // PILLARS 1, 0 with 2, 1: from PILLAR 1 one, from PILLAR 0 none helps
        PillarSaints y = crowd(2, 2, 1);
        due("the PILLAR", y.game(0), 1);
        due("how many", y.game(1), 1);
        due("both alike: who begins loses", crowd(2, 1, 1).game(0), -1);
        due("both alike: who begins loses", crowd(2, 1, 1).game(1), -1);
    }

    private static void undoKinds() {
        by("UNDO: the latest DAY, SENDING, SAYING, DOWN, BUILDING not undone yet goes back (STATE, THE BOOK, too)");
        PillarSaints none = crowd(2, 1);
        due("nothing", none.undo(), false);
        PillarSaints x = calm("dies 1 when doctrine=1;leans 5;", 2, 1, 2, 3);
        fine(x, 1, "day 0 is 6;", 1);
        x.act(0, 0, 9);
        x.act(1, 0, 44);
        x.act(2, 0, 0);
        x.act(3, 0, 77);
        int lines = x.look(8);
        x.days(1);
        due("five", x.look(15), 5);
        due("a draw", x.look(9), 1013904223);
        due("undo() of a DAY", x.undo(), true);
        due("DAY", x.look(2), 0);
        due("STATE", x.look(9), 0);
        due("THE BOOK", x.look(8), lines);
        due("WEATHER", x.look(5), 0);
        due("BASKET", x.look(3), 9);
        due("LEFT", x.look(4), 0);
        due("DOCTRINE", x.of(1, 2), 2);
        due("AGE", x.of(1, 0), 20);
        due("HUNGER", x.of(0, 3), 0);
        due("ADVICE", x.at(1, 2), 44);
        due("TALL", x.at(0, 0), 77);
        due("undo() of BUILDING", x.undo(), true);
        due("TALL", x.at(0, 0), 10);
        due("undo() of DOWN", x.undo(), true);
        due("he sits again", x.of(0, 5), 1);
        due("THE GROUND", x.look(7), 1);
        due("THE BOOK", x.look(8), 2);
        due("undo() of SAYING", x.undo(), true);
        due("ADVICE", x.at(1, 2), -100);
        due("undo() of SENDING", x.undo(), true);
        due("BASKET", x.look(3), 0);
        due("nothing", x.undo(), false);
        due("look(15)", x.look(15), 0);
    }

    private static void undoSix() {
        by("6 are kept");
        for (int n = 5; n <= 7; n++) {
            PillarSaints x = new PillarSaints();
            for (int i = 0; i < n; i++) {
                x.act(0, 0, 10);
            }
            int kept = Math.min(n, 6);
            due("kept of " + n, x.look(15), kept);
            for (int i = 0; i < kept; i++) {
                due("undo()", x.undo(), true);
            }
            due("one more", x.undo(), false);
            due("BASKET", x.look(3), 10 * (n - kept));
            PillarSaints y = new PillarSaints();
            y.days(n);
            due("DAYS kept of " + n, y.look(15), kept);
            for (int i = 0; i < kept; i++) {
                y.undo();
            }
            due("DAY", y.look(2), n - kept);
        }
        PillarSaints x = new PillarSaints();
        x.days(6);
        x.undo();
        x.undo();
        x.act(0, 0, 5);
        x.act(0, 0, 5);
        due("full again", x.look(15), 6);
        x.act(0, 0, 5);
        due("still six", x.look(15), 6);
        for (int i = 0; i < 6; i++) {
            x.undo();
        }
        due("the first DAY stays", x.look(2), 1);
    }

    private static void undoBook() {
        by("UNDO (STATE, THE BOOK, too)");
        PillarSaints x = crowd(1, 1, 2);
        x.act(2, 0, 0);
        x.undo();
        x.act(0, 0, 1);
        x.days(1);
        due("lines", x.look(8), 2);
        due("what came instead", x.book(1, 1), 0);
        x.undo();
        due("lines", x.look(8), 1);
        due("beyond", x.book(1, 1), -100);
        due("what stays", x.book(0, 1), 2);
    }

    /** Six that can be undone, and all there is to tell. */
    private static PillarSaints done() {
        PillarSaints x = calm("", 2, 1, 2, 3);
        x.image(true);
        for (int i = 0; i < 6; i++) {
            x.act(0, 0, 1);
        }
        return x;
    }

    private static void undoForgets() {
        by("whatever else is told forgets them");
        String[] what = {"state", "pillar", "saint", "set AGE", "set FAITH", "set DOCTRINE", "set HUNGER", "set WEATHER", "A PLAN", "THE IMAGE"};
        for (int i = 0; i < what.length; i++) {
            PillarSaints x = done();
            switch (i) {
                case 0: x.state(0); break;
                case 1: x.pillar(5); break;
                case 2: x.saint(5, 5, 5); break;
                case 8: told(x, 2, ""); break;
                case 9: x.image(false); break;
                default: x.set(i - 3, 0, 0); break;
            }
            due("what can be undone behind " + what[i], x.look(15), 0);
            due("undo() behind " + what[i], x.undo(), false);
        }
    }

    private static void undoForgetsNot() {
        by("but THE LAW, SKY, TENETS and BUILDS (the taking of THE IMAGE does not)");
        String[] what = {"THE LAW", "SKY", "A PLAN with a FAULT", "TENETS", "no such text", "a build", "no builds", "taking THE IMAGE", "feed", "end"};
        for (int i = 0; i < what.length; i++) {
            PillarSaints x = done();
            switch (i) {
                case 0: case 1: case 3: due("text", told(x, i, ""), 0); break;
                case 2: due("text", told(x, 2, "x"), -1); break;
                case 4: x.text(4); break;
                case 5: x.build(1, 1); break;
                case 6: x.build(-1, 1); break;
                case 7: x.image(true); break;
                case 8: x.feed(1, 2, 3, 4, 5); break;
                default: x.end(0); break;
            }
            due("what can be undone behind " + what[i], x.look(15), 6);
            due("undo() behind " + what[i], x.undo(), true);
            due("BASKET", x.look(3), 5);
        }
    }

    private static PillarSaints picture() {
        PillarSaints x = crowd(2, 7, 8, 9);
        told(x, 0, "eats 3;dies 1 when doctrine=7;leans 0;");
        told(x, 1, "day 3 is 3;");
        told(x, 2, "on 9 say 3;on 8 say 3;");
        told(x, 3, "1 so 2;");
        x.build(4, 5);
        x.set(4, 0, 6);
        x.state(99);
        x.act(0, 0, 50);
        x.days(1);
        x.act(1, 0, 5);
        x.act(3, 0, 55);
        return x;
    }

    private static String shown(PillarSaints x) {
        StringBuilder b = new StringBuilder();
        for (int what = 0; what <= 14; what++) {
            b.append(x.look(what)).append(' ');
        }
        for (int s = 0; s < 5; s++) {
            b.append("| ");
            for (int what = 0; what < 10; what++) {
                b.append(x.of(s, what)).append(' ');
            }
        }
        for (int p = 0; p < 4; p++) {
            b.append("| ").append(x.at(p, 0)).append(' ').append(x.at(p, 1)).append(' ').append(x.at(p, 2)).append(' ');
        }
        for (int i = 0; i < 9; i++) {
            b.append("| ").append(x.book(i, 0)).append(' ').append(x.book(i, 1)).append(' ').append(x.book(i, 2)).append(' ').append(x.book(i, 3));
        }
        return b.append("| ").append(x.sky(3)).append(' ').append(x.follows(2)).append(' ').append(x.builds(0)).append(' ')
                .append(x.goes(20, 3)).append(' ').append(x.goes(20, 2)).toString();
    }

    private static void change(PillarSaints x) {
        x.days(12);
        x.pillar(9);
        x.saint(9, 9, 9);
        for (int what = 0; what < 5; what++) {
            x.set(what, 0, 1);
        }
        for (int k = 0; k < 4; k++) {
            told(x, k, "");
        }
        x.build(-1, 0);
        x.build(9, 9);
        x.build(9, 9);
        x.act(2, 0, 0);
        x.act(0, 0, 99);
    }

    private static void imageAll() {
        by("THE IMAGE: all that is and was told, as it was when it was taken");
        due("none", picture().image(false), false);
        PillarSaints x = picture();
        due("taken", x.image(true), true);
        change(x);
        due("gone back to", x.image(false), true);
        due("all", shown(x), shown(picture()));
        PillarSaints empty = new PillarSaints();
        empty.image(true);
        change(empty);
        empty.image(false);
        due("an empty desert", shown(empty), shown(new PillarSaints()));
    }

    private static void imageNot() {
        by("but the TAPE, fault() and what can be undone (nothing then)");
        PillarSaints x = picture();
        tape(x, "eats 1;");
        x.image(true);
        due("taking keeps what can be undone", x.look(15), 4);
        tape(x, "day 3 is 10;");
        due("a FAULT", x.text(1), -1);
        tape(x, "1 so 3;");
        x.image(false);
        due("fault(0)", x.fault(0), 2);
        due("fault(1)", x.fault(1), 9);
        due("the TAPE has as many", x.end(8), false);
        due("the TAPE as it is", x.text(3), 1);
        due("what it told", x.follows(2), 10);
        due("nothing can be undone", x.look(15), 0);
        due("undo()", x.undo(), false);
    }

    private static void imageAgain() {
        by("gone back to may be more than once");
        PillarSaints x = picture();
        x.image(true);
        for (int round = 0; round < 2; round++) {
            change(x);
            due("gone back to", x.image(false), true);
        }
        due("all", shown(x), shown(picture()));
        PillarSaints y = picture();
        y.image(true);
        change(y);
        y.image(true);
        PillarSaints changed = picture();
        change(changed);
        y.days(1);
        y.image(false);
        due("the latest taken", shown(y), shown(changed));
    }

    private static void imageStands() {
        by("as it was when it was taken");
        PillarSaints x = picture();
        x.image(true);
        for (int i = 0; i < 4; i++) {
            x.undo();
        }
        x.days(3);
        x.image(false);
        due("what was undone behind the taking", shown(x), shown(picture()));
        due("all goes on: days", x.days(5), picture().days(5));
    }
}

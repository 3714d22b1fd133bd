/** Each promise by hand: ordinary calls, the edges that the document names, and what it refuses. */
public final class PromisesTest extends Due {
    public static void main(String[] args) {
        newObject();
        state();
        pillar();
        saint();
        set();
        act();
        days();
        dayOrder();
        feedAndEnd();
        text();
        lawFaults();
        otherFaults();
        lawValues();
        ofAndAt();
        sky();
        plan();
        book();
        goes();
        loaves();
        heir();
        comes();
        scandal();
        middle();
        follows();
        gives();
        seen();
        hears();
        builds();
        gone();
        lap();
        game();
        undo();
        image();
        look();
        finish("promises");
    }

    private static void newObject() {
        by("promise 1");
        PillarSaints x = new PillarSaints();
        for (int what = 0; what <= 15; what++) {
            due("look(" + what + ")", x.look(what), 0);
        }
        due("fault(0)", x.fault(0), 0);
        due("fault(1)", x.fault(1), -1);
        due("NONE", PillarSaints.NONE, -1);
        new PillarSaints().pillar(5);
        due("look(0)", x.look(0), 0);
    }

    private static void state() {
        by("promise 2");
        PillarSaints x = new PillarSaints();
        due("state", x.state(-77), 0);
        due("state", x.state(Integer.MIN_VALUE), -77);
        due("look(9)", x.look(9), Integer.MIN_VALUE);
        x.act(0, 0, 5);
        due("state", x.state(3), Integer.MIN_VALUE);
        due("look(15)", x.look(15), 0);
    }

    private static void pillar() {
        by("promise 3");
        PillarSaints x = new PillarSaints();
        due("pillar(0)", x.pillar(0), -1);
        due("pillar(100)", x.pillar(100), -1);
        due("pillar(-1)", x.pillar(-1), -1);
        x.saint(1, 1, 1);
        x.saint(2, 2, 2);
        due("of(0, 6)", x.of(0, 6), 0);
        due("pillar(1)", x.pillar(1), 0);
        due("at(0, 1)", x.at(0, 1), 0);
        due("of(1, 6)", x.of(1, 6), 0);
        due("pillar(99)", x.pillar(99), 1);
        due("at(1, 1)", x.at(1, 1), 0);
        due("at(0, 1)", x.at(0, 1), 1);
        for (int i = 2; i < 10; i++) {
            due("pillar(50)", x.pillar(50), i);
        }
        x.act(0, 0, 1);
        due("pillar(50)", x.pillar(50), -1);
        due("look(15)", x.look(15), 1);
        due("look(0)", x.look(0), 10);
        due("at(9, 1)", x.at(9, 1), 0);
        due("at(8, 1)", x.at(8, 1), 1);
        due("at(7, 1)", x.at(7, 1), -1);
    }

    private static void saint() {
        by("promise 4");
        PillarSaints x = row(5, 5);
        int[][] bad = {{-1, 0, 0}, {121, 0, 0}, {0, -1, 0}, {0, 10, 0}, {0, 0, -100}, {0, 0, 100}};
        for (int[] b : bad) {
            due("saint", x.saint(b[0], b[1], b[2]), -1);
        }
        due("saint", x.saint(0, 0, -99), 0);
        due("saint", x.saint(120, 9, 99), 1);
        due("at(1, 1)", x.at(1, 1), 0);
        due("at(0, 1)", x.at(0, 1), 1);
        for (int i = 2; i < 14; i++) {
            due("saint", x.saint(i, 1, 1), i);
            due("of(i, 6)", x.of(i, 6), i - 2);
        }
        due("saint", x.saint(1, 1, 1), -1);
        due("look(1)", x.look(1), 14);
        due("look(7)", x.look(7), 12);
        due("of(13, 3)", x.of(13, 3), 0);
        due("of(13, 4)", x.of(13, 4), 0);
    }

    private static void set() {
        by("promise 5");
        PillarSaints x = crowd(1, 7);
        int[][] bounds = {{0, 0, 120}, {1, 0, 9}, {2, -99, 99}, {3, 0, 99}};
        for (int[] b : bounds) {
            due("set low", x.set(b[0], 0, b[1]), true);
            due("of", x.of(0, b[0]), b[1]);
            due("set high", x.set(b[0], 0, b[2]), true);
            due("of", x.of(0, b[0]), b[2]);
            due("set beyond", x.set(b[0], 0, b[2] + 1), false);
            due("set below", x.set(b[0], 0, b[1] - 1), false);
            due("of", x.of(0, b[0]), b[2]);
            due("set nobody", x.set(b[0], 1, b[1]), false);
            due("set nobody", x.set(b[0], -1, b[1]), false);
        }
        due("set(4)", x.set(4, -5, 9), true);
        due("look(5)", x.look(5), 9);
        due("set(4)", x.set(4, 0, 10), false);
        due("set(4)", x.set(4, 0, -1), false);
        due("set(5)", x.set(5, 0, 1), false);
        due("set(-1)", x.set(-1, 0, 1), false);
        x.act(0, 0, 1);
        x.set(5, 0, 1);
        x.set(0, 0, 121);
        due("look(15)", x.look(15), 1);
        x.set(0, 0, 5);
        due("look(15)", x.look(15), 0);
    }

    private static void act() {
        by("promise 6");
        PillarSaints x = new PillarSaints();
        due("act(0, 0, 0)", x.act(0, 0, 0), false);
        due("act(0, 0, 1000)", x.act(0, 0, 1000), false);
        due("act(0, 0, -3)", x.act(0, 0, -3), false);
        due("act(0, -7, 1)", x.act(0, -7, 1), true);
        due("act(0, 0, 999)", x.act(0, 0, 999), true);
        due("look(3)", x.look(3), 999);
        due("act(1, 0, 5)", x.act(1, 0, 5), false);
        x.pillar(10);
        x.pillar(20);
        due("act(1, 0, 5)", x.act(1, 0, 5), false);
        due("act(2, -1, 0)", x.act(2, -1, 0), false);
        x.saint(10, 1, 1);
        due("act(1, 0, -99)", x.act(1, 77, -99), true);
        due("at(1, 2)", x.at(1, 2), -99);
        due("at(0, 2)", x.at(0, 2), -100);
        due("act(1, 0, 100)", x.act(1, 0, 100), false);
        due("act(1, 0, -100)", x.act(1, 0, -100), false);
        due("act(2, 0, 0)", x.act(2, 0, 0), true);
        due("at(1, 1)", x.at(1, 1), 0);
        due("book", x.book(1, 1), 3);
        due("book", x.book(1, 2), 0);
        due("book", x.book(1, 3), 1);
        due("book", x.book(2, 1), 2);
        x.saint(10, 1, 1);
        x.saint(10, 1, 1);
        due("act(2, 2, 0) on the ground", x.act(2, 2, 0), false);
        due("act(2, 3, 0)", x.act(2, 3, 0), false);
        due("act(2, 0, 0)", x.act(2, 0, 0), true);
        due("of(1, 5)", x.of(1, 5), 1);
        due("of(2, 5)", x.of(2, 5), 0);
        due("of(0, 6)", x.of(0, 6), 0);
        due("act(3, 1, 1)", x.act(3, 1, 1), true);
        due("act(3, 0, 99)", x.act(3, 0, 99), true);
        due("at(1, 0)", x.at(1, 0), 1);
        due("at(0, 0)", x.at(0, 0), 99);
        due("act(3, 2, 5)", x.act(3, 2, 5), false);
        due("act(3, -1, 5)", x.act(3, -1, 5), false);
        due("act(3, 0, 0)", x.act(3, 0, 0), false);
        due("act(3, 0, 100)", x.act(3, 0, 100), false);
        due("act(4, 0, 5)", x.act(4, 0, 5), false);
        due("act(-1, 0, 5)", x.act(-1, 0, 5), false);
    }

    private static void days() {
        by("promise 7");
        PillarSaints x = new PillarSaints();
        due("days(0)", x.days(0), -1);
        due("days(61)", x.days(61), -1);
        due("days(-1)", x.days(-1), -1);
        due("days(MAX)", x.days(Integer.MAX_VALUE), -1);
        for (int i = 0; i < 166; i++) {
            due("days(60)", x.days(60), 0);
        }
        due("days(40)", x.days(40), -1);
        due("look(2)", x.look(2), 9960);
        due("days(39)", x.days(39), 0);
        due("look(2)", x.look(2), 9999);
        due("days(1)", x.days(1), -1);
        due("look(15)", x.look(15), 6);
        x = crowd(2, 5, 6, 7);
        fine(x, 0, "dies 1000;", 1);
        due("days(2)", x.days(2), 3);
        due("look(6)", x.look(6), 7);
        due("look(7)", x.look(7), 0);
        due("days(1)", x.days(1), 0);
        due("of(0, 0) of the dead", x.of(0, 0), 21);
        due("book of the first who died", x.book(2, 1), 1);
        due("book of his age", x.book(2, 3), 21);
    }

    /** The parts of a day, one behind the other. */
    private static void dayOrder() {
        by("terms 3");
        PillarSaints x = crowd(2, 0, 40, 0);
        x.act(0, 0, 10);
        fine(x, 0, "eats 4;leans 9 when place=2;leans above-doctrine;dies 0;", 4);
        x.set(3, 0, 15);
        x.set(3, 2, 99);
        due("days(1)", x.days(1), 0);
        due("fed whole: 10 less", x.of(0, 3), 5);
        due("ate", x.book(2, 3), 4);
        due("on the ground at most", x.of(2, 3), 99);
        due("left", x.look(4), 2);
        due("basket", x.look(3), 0);
        due("who leans first is lowest", x.of(1, 2), 0);
        due("the highest leans behind him", x.of(0, 2), 9);
        due("the ground leans not", x.of(2, 2), 0);
        x = crowd(2, 0, 40);
        fine(x, 0, "eats 4;dies 0;leans 0;", 3);
        x.act(0, 0, 5);
        x.days(1);
        due("lacks 3, times 5", x.of(1, 3), 15);
        due("he took 1", x.book(3, 3), 1);
        x.days(1);
        due("lacks 4", x.of(0, 3), 20);
        due("no line for none", x.look(8), 4);
        x.set(3, 0, 90);
        x.days(1);
        due("hunger at most 99", x.of(0, 3), 99);
        // advice: a pillar a day, quotients downwards, forgotten at the end
        x = crowd(3, 0, 0, 0);
        fine(x, 0, "leans 0-10;dies 0;eats 0;", 3);
        x.act(1, 0, -98);
        x.days(1);
        due("advice", x.at(1, 2), -99);
        due("advice gone above", x.at(2, 2), -100);
        due("advice line", x.book(3, 1), 4);
        due("advice line which", x.book(3, 2), 1);
        due("advice line how much", x.book(3, 3), -99);
        x.act(1, 0, 50);
        x.days(1);
        due("advice held", x.at(0, 2), -99);
        due("advice of the next", x.at(1, 2), 48);
        x.days(1);
        due("advice of the next", x.at(0, 2), 46);
        x.days(1);
        due("advice forgotten", x.at(0, 2), -100);
        // draws: only who may die draws, in the order of numbers; below dies he is dead
        x = crowd(1, 0, 0);
        fine(x, 0, "dies 564 when age=21 and place=0;dies 0;", 2);
        due("days(1)", x.days(1), 1);
        due("one draw of 563", x.look(9), 1013904223);
        due("dead on the ground", x.of(1, 4), 1);
        x = crowd(1, 0, 0);
        fine(x, 0, "dies 563 when place=0;dies 0;", 2);
        due("days(1)", x.days(1), 0);
        // an age of 120 stays, and the age that counts is the new one
        x = crowd(1, 0);
        fine(x, 0, "dies 1000 when age=121 or age=20;dies 0;", 2);
        x.set(0, 0, 120);
        due("days(1)", x.days(1), 0);
        due("age", x.of(0, 0), 120);
        x.set(0, 0, 19);
        due("days(1)", x.days(1), 1);
        // all climb only behind all deaths
        x = crowd(2, 0, 1, 2);
        fine(x, 0, "dies 1000 when place>0;dies 0;", 2);
        due("days(1)", x.days(1), 2);
        due("who came up", x.at(1, 1), 2);
    }

    private static void feedAndEnd() {
        by("promise 8");
        PillarSaints x = new PillarSaints();
        for (int i = 1; i <= 20; i++) {
            due("feed", x.feed(0, 0, 0, 0, 0), 20 * i);
        }
        due("feed", x.feed(0, 0, 0, 0, 0), -1);
        by("promise 9");
        due("end(401)", x.end(401), false);
        due("end(-1)", x.end(-1), false);
        due("end(381)", x.end(381), true);
        due("feed", x.feed(0, 0, 0, 0, 0), -1);
        due("end(382)", x.end(382), false);
        due("end(380)", x.end(380), true);
        due("feed", x.feed(0, 0, 0, 0, 0), 400);
        due("end(0)", x.end(0), true);
        due("end(1)", x.end(1), false);
        // of each number the highest byte first: "day 1 is 2;" and blanks
        due("feed", x.feed(0x64617920, 0x31206973, 0x20323b20, 0x20202020, 0x0a0a0a0a), 20);
        due("text(1)", x.text(1), 1);
        due("sky(1)", x.sky(1), 2);
    }

    private static void text() {
        by("promise 10");
        PillarSaints x = crowd(2, 0, 0);
        fine(x, 0, "", 0);
        fine(x, 0, " \n ", 0);
        fine(x, 0, "eats\n1;", 1);
        fine(x, 0, "eats1;dies2*age/3-4+day;leans place+tall when((1<2));", 3);
        due("tape empty then", x.feed(0, 0, 0, 0, 0), 20);
        faulty(x, 0, "eats 1; dies;", 1, 12);
        due("tape empty then", x.feed(0, 0, 0, 0, 0), 20);
        due("stays as it was", x.look(10), 3);
        fine(x, 0, "eats 1;".repeat(16), 16);
        x.act(0, 0, 3);
        fine(x, 1, "day 999 is 9;".repeat(16), 16);
        fine(x, 3, "0 and 15 so 1;".repeat(16), 16);
        due("nothing forgotten", x.look(15), 1);
        faulty(x, 2, "on;", 1, 2);
        due("nothing forgotten", x.look(15), 1);
        fine(x, 2, "on 999 say 0;".repeat(16), 16);
        due("forgotten", x.look(15), 0);
        due("feed", x.feed(0, 0, 0, 0, 0), 20);
        due("text(4)", x.text(4), -1);
        due("tape empty with no such text", x.feed(0, 0, 0, 0, 0), 20);
        due("text(-1)", x.text(-1), -1);
        due("tape empty with no such text", x.end(1), false);
        due("as they were", x.look(10) + x.look(11) + x.look(12) + x.look(13), 64);
        faulty(x, 1, ";", 1, 0);
        due("text(-1)", x.text(-1), -1);
        by("promise 11");
        due("fault(0)", x.fault(0), 0);
        due("fault(1)", x.fault(1), -1);
        faulty(x, 1, " ;", 1, 1);
        due("fault(2)", x.fault(2), -1);
        due("fault(-1)", x.fault(-1), -1);
        due("look(11)", x.look(11), 16);
    }

    private static void lawFaults() {
        by("terms 2, the law");
        PillarSaints x = crowd(1, 0);
        faulty(x, 0, "eats", 1, 4);
        faulty(x, 0, "eatsA 1;", 1, 0);
        faulty(x, 0, "eatsZ 1;", 1, 0);
        faulty(x, 0, "eats@ 1;", 1, 4);
        faulty(x, 0, "eats[ 1;", 1, 4);
        faulty(x, 0, "eats ", 1, 5);
        faulty(x, 0, "eats 1", 1, 6);
        faulty(x, 0, "eats 1 2;", 1, 7);
        faulty(x, 0, "eatsage;", 1, 0);
        faulty(x, 0, "Eats 1;", 1, 0);
        faulty(x, 0, "eatsz 1;", 1, 0);
        faulty(x, 0, "eats{1;", 1, 4);
        faulty(x, 0, "eats 1.;", 1, 6);
        faulty(x, 0, "eats\t1;", 1, 4);
        faulty(x, 0, "eats 12345;", 1, 5);
        faulty(x, 0, "eats 00001;", 1, 5);
        faulty(x, 0, "eats is;", 1, 5);
        faulty(x, 0, "eats -1;", 1, 5);
        faulty(x, 0, "eats (1);", 1, 5);
        faulty(x, 0, "eats 1+;", 1, 7);
        faulty(x, 0, "eats 4/age;", 1, 7);
        faulty(x, 0, "eats 4/0;", 2, 7);
        faulty(x, 0, "eats 4/0000;;", 2, 7);
        faulty(x, 0, "eats 1 when;", 1, 11);
        faulty(x, 0, "eats 1 when 2;", 1, 13);
        faulty(x, 0, "eats 1 when 2<3<4;", 1, 15);
        faulty(x, 0, "eats 1 when (2<3;", 1, 16);
        faulty(x, 0, "eats 1 when 2<3);", 1, 15);
        faulty(x, 0, "eats 1 when (2+1)<3;", 1, 16);
        faulty(x, 0, "eats 1 when 2<3 and;", 1, 19);
        faulty(x, 0, "eats 1 when not;", 1, 15);
        faulty(x, 0, "when 1;", 1, 0);
        faulty(x, 0, ";", 1, 0);
        faulty(x, 0, "eats 1;".repeat(17), 3, 112);
        faulty(x, 0, "eats 1;".repeat(16) + "when", 1, 112);
        faulty(x, 0, "eats 1;".repeat(16) + " dies", 3, 113);
        fine(x, 0, "eats 1 when " + "(".repeat(8) + "1=1" + ")".repeat(8) + ";", 1);
        fine(x, 0, "eats 1 when " + "not ".repeat(8) + "1=1;", 1);
        faulty(x, 0, "eats 1 when " + "(".repeat(9) + "1=1", 3, 20);
        faulty(x, 0, "eats 1 when " + "not(".repeat(4) + "not(", 3, 12 + 16);
        fine(x, 0, "eats 1 when " + "not(".repeat(4) + "1=1" + ")".repeat(4) + " and not (1=2) or (not 1=1);", 1);
        fine(x, 0, "eats 1 when " + "not 1=1 and (1=1) and ".repeat(12) + "1=1;", 1);
    }

    private static void otherFaults() {
        by("terms 2, the others");
        PillarSaints x = crowd(2, 0, 0, 0);
        faulty(x, 1, "day 1000 is 1;", 2, 4);
        faulty(x, 1, "day 999 is 10;", 2, 11);
        faulty(x, 1, "day 1 1;", 1, 6);
        faulty(x, 1, "day age;", 1, 4);
        faulty(x, 1, "day 0 is 0;".repeat(17), 3, 176);
        fine(x, 2, "on 0 loaves 999;on 999 say 99;on 0 loaves 0;on 1 down 2;on 1 build 1 99;on 1 curse 2;", 6);
        faulty(x, 2, "on 0 loaves 1000;", 2, 12);
        faulty(x, 2, "on 0 say 100;", 2, 9);
        faulty(x, 2, "on 0 say -1;", 1, 9);
        faulty(x, 2, "on 0 down 3;", 2, 10);
        faulty(x, 2, "on 0 curse 3;", 2, 11);
        faulty(x, 2, "on 0 build 2 5;", 2, 11);
        faulty(x, 2, "on 0 build 1 0;", 2, 13);
        faulty(x, 2, "on 0 build 1 100;", 2, 13);
        faulty(x, 2, "on 0 build 1;", 1, 12);
        faulty(x, 2, "on 1000 build", 2, 3);
        faulty(x, 2, "on 0 on 0;", 1, 5);
        faulty(x, 2, "on 0 say 0;".repeat(17), 3, 176);
        faulty(x, 3, "16 so 1;", 2, 0);
        faulty(x, 3, "1 so 16;", 2, 5);
        faulty(x, 3, "1 and 16 so 1;", 2, 6);
        faulty(x, 3, "1 so 2 and 3;", 1, 7);
        faulty(x, 3, "1 and so 3;", 1, 6);
        faulty(x, 3, "so 3;", 1, 0);
        faulty(x, 3, "1 so 2;".repeat(17), 3, 112);
        faulty(x, 3, "1 so 2;".repeat(16) + "16", 2, 112);
        faulty(x, 3, "1 so 2;".repeat(16) + "so", 1, 112);
        due("the plan stays", x.look(12), 6);
        PillarSaints none = new PillarSaints();
        faulty(none, 2, "on 0 down 0;", 2, 10);
        faulty(none, 2, "on 0 build 0 1;", 2, 11);
    }

    private static void law(String formula, int what, int want) {
        PillarSaints x = row(30, 40, 50);
        x.saint(70, 3, -20);
        x.saint(33, 7, 11);
        x.set(4, 0, 6);
        x.set(3, 1, 13);
        x.days(2);
        x.set(2, 0, -20);
        x.set(2, 1, 11);
        x.set(3, 1, 13);
        x.set(0, 1, 33);
        String[] words = {"eats ", "dies ", "leans "};
        fine(x, 0, words[what - 7] + formula + ";", formula.contains(";") ? 2 : 1);
        due(formula, x.of(1, what), want);
    }

    private static void lawValues() {
        by("terms 2, what the law tells");
        law("age", 8, 33);
        law("faith", 8, 7);
        law("doctrine", 9, 11);
        law("hunger", 8, 13);
        law("place", 8, 2);
        law("tall", 8, 40);
        law("weather", 8, 6);
        law("above", 9, -20);
        law("day", 8, 2);
        law("2+3*4-5", 8, 9);
        law("20-5-5", 8, 10);
        law("100/7*7", 8, 98);
        law("0-7/2", 9, -3);
        law("above/3", 9, -6);
        law("above*7/3*2", 9, -92);
        law("2*3+4*5-6/3*2", 8, 22);
        law("9999*9999*9999*9999", 8, 1000);
        law("9999*9999*25", 8, 0);
        law("100", 7, 99);
        law("0-1", 7, 0);
        law("1001", 8, 1000);
        law("100", 9, 99);
        law("0-100", 9, -99);
        law("5 when 1=1 or 1=2 and 1=2", 8, 5);
        law("5 when (1=1 or 1=2) and 1=2", 8, 0);
        law("5 when not 1=2 and 1=1", 8, 5);
        law("5 when not (1=2 or 1=1)", 8, 0);
        law("5 when 1=2 and 1=1 or 1=1 and 2<3", 8, 5);
        law("5 when 1=2 or 1=2 or 3>2", 8, 5);
        law("5 when 3>3 or 3<3", 8, 0);
        law("5 when age-33=0;dies 6", 8, 5);
        // the usual law where no line holds
        PillarSaints x = row(10, 10);
        x.saint(70, 0, -10);
        x.saint(71, 0, 13);
        x.saint(1, 0, 50);
        fine(x, 0, "eats 7 when 1=2;dies 8 when 1=2;leans 9 when 1=2;", 3);
        due("dies at 70", x.of(0, 8), 0);
        due("dies at 71", x.of(1, 8), 5);
        due("leans downwards", x.of(1, 9), -6);
        due("leans of the highest", x.of(0, 9), 0);
        due("leans on the ground", x.of(2, 9), 0);
        x.set(3, 0, 80);
        due("eats at 80", x.of(0, 7), 5);
        due("dies at 80", x.of(0, 8), 0);
        x.set(3, 0, 99);
        due("eats at 99", x.of(0, 7), 5);
        due("dies at 99", x.of(0, 8), 380);
        x.set(0, 0, 120);
        due("dies at both", x.of(0, 8), 630);
        x.set(3, 1, 19);
        due("eats at 19", x.of(1, 7), 1);
        fine(x, 0, "eats 5 when place=0;eats 6 when tall=0;eats tall;", 3);
        due("on the ground", x.of(2, 7), 5);
        due("on a pillar", x.of(0, 7), 10);
    }

    private static void ofAndAt() {
        by("promise 12");
        PillarSaints x = crowd(1, 5, 6, 7);
        due("of(0, 5)", x.of(0, 5), 0);
        due("of(0, 6)", x.of(0, 6), -1);
        due("of(2, 5)", x.of(2, 5), -1);
        due("of(2, 6)", x.of(2, 6), 1);
        due("of(0, 10)", x.of(0, 10), -100);
        due("of(0, -1)", x.of(0, -1), -100);
        due("of(3, 0)", x.of(3, 0), -100);
        due("of(-1, 5)", x.of(-1, 5), -100);
        due("of(3, 7)", x.of(3, 7), -100);
        fine(x, 0, "dies 1000 when doctrine=6;dies 0;eats 3+place;", 3);
        x.days(1);
        due("of the dead: DEAD", x.of(1, 4), 1);
        due("of the dead: pillar", x.of(1, 5), -1);
        due("of the dead: ground", x.of(1, 6), -1);
        due("of the dead: eats", x.of(1, 7), 3);
        due("of(2, 6)", x.of(2, 6), 0);
        by("promise 13");
        due("at(0, 0)", x.at(0, 0), 10);
        due("at(0, 1)", x.at(0, 1), 0);
        due("at(0, 2)", x.at(0, 2), -100);
        due("at(0, 3)", x.at(0, 3), -200);
        due("at(0, -1)", x.at(0, -1), -200);
        due("at(1, 0)", x.at(1, 0), -200);
        due("at(-1, 0)", x.at(-1, 0), -200);
        x.act(1, 0, 99);
        due("at(0, 2)", x.at(0, 2), 99);
        due("at", row(4).at(0, 1), -1);
    }

    private static void sky() {
        by("promise 14");
        PillarSaints x = new PillarSaints();
        fine(x, 1, "day 0 is 3;day 999 is 0;day 0 is 8;day 2 is 5;", 4);
        due("sky(0)", x.sky(0), 8);
        due("sky(999)", x.sky(999), 0);
        due("sky(1)", x.sky(1), -1);
        due("sky(-1)", x.sky(-1), -1);
        due("sky(10000)", x.sky(10000), -1);
        x.days(1);
        due("weather", x.look(5), 8);
        x.days(1);
        due("weather stays", x.look(5), 8);
        x.days(1);
        due("weather", x.look(5), 5);
    }

    private static void plan() {
        by("terms 3, a plan");
        PillarSaints x = crowd(2, 10, 20, 30);
        x.act(0, 0, 500);
        fine(x, 0, "dies 0;leans 0;eats 0;", 3);
        fine(x, 2, "on 0 loaves 7;on 0 build 0 77;on 0 down 0;on 0 say 33;on 1 curse 2;on 1 down 0;on 1 loaves 2;on 1 loaves 3;", 8);
        x.days(1);
        due("loaves set it", x.look(4), 7);
        due("build", x.at(0, 0), 77);
        due("down", x.of(0, 6), 0);
        due("climbed", x.of(1, 5), 1);
        due("say at the highest, then a pillar lower", x.at(0, 2), 33);
        x.days(1);
        due("curse", x.of(2, 3), 89);
        due("down of one on the ground is nothing", x.of(0, 6), 0);
        due("the last loaves count", x.look(4), 10);
        due("line of down", x.book(2, 1), 3);
        PillarSaints dead = crowd(1, 10);
        fine(dead, 0, "dies 1000 when day=0;", 1);
        fine(dead, 2, "on 1 curse 0;on 1 down 0;on 1 say 5;", 3);
        dead.days(2);
        due("no curse of the dead", dead.of(0, 3), 5);
        due("nobody to say it", dead.at(0, 2), -100);
    }

    private static void book() {
        by("promise 15");
        PillarSaints x = crowd(1, 5);
        x.days(3);
        x.act(0, 0, 1);
        x.days(1);
        due("book(0, 0)", x.book(0, 0), 0);
        due("book(1, 0)", x.book(1, 0), 3);
        due("book(1, 1)", x.book(1, 1), 0);
        due("book(1, 2)", x.book(1, 2), 0);
        due("book(1, 3)", x.book(1, 3), 1);
        due("book(2, 0)", x.book(2, 0), -100);
        due("book(-1, 0)", x.book(-1, 0), -100);
        due("book(0, 4)", x.book(0, 4), -100);
        due("book(0, -1)", x.book(0, -1), -100);
        for (int i = 0; i < 100; i++) {
            x.act(2, 0, 0);
        }
        due("150 lines", x.look(8), 150);
        due("book(149, 1)", x.book(149, 1), 2);
        due("book(150, 1)", x.book(150, 1), -100);
        x.undo();
        due("150 lines", x.look(8), 150);
    }

    private static void goes() {
        by("promise 16");
        PillarSaints x = crowd(2, 0, 36, 0);
        fine(x, 0, "dies 500 when age>21;dies 499;eats 2;leans 9;", 4);
        fine(x, 2, "on 0 loaves 9;on 0 say 7;on 1 loaves 3;", 3);
        x.state(5);
        due("goes(1, 0)", x.goes(1, 0), 0);
        due("goes(1, 1)", x.goes(1, 1), 5);
        due("goes(1, 2)", x.goes(1, 2), 1);
        due("goes(1, 3)", x.goes(1, 3), 8);
        due("goes(2, 0)", x.goes(2, 0), 3);
        due("goes(2, 2)", x.goes(2, 2), 0);
        due("goes(2, 3)", x.goes(2, 3), 0);
        due("goes(60, 1)", x.goes(60, 1), 5);
        due("goes(61, 0)", x.goes(61, 0), -100);
        due("goes(0, 0)", x.goes(0, 0), -100);
        due("goes(1, -1)", x.goes(1, -1), -100);
        due("goes(1, 4)", x.goes(1, 4), -100);
        due("nothing stays: day", x.look(2), 0);
        due("nothing stays: state", x.look(9), 5);
        due("nothing stays: book", x.look(8), 2);
        due("nothing stays: age", x.of(0, 0), 20);
        due("nothing stays: undo", x.look(15), 0);
    }

    private static void loaves() {
        by("promise 17");
        PillarSaints x = crowd(2, 0, 0, 0);
        due("loaves()", x.loaves(), 2);
        x.set(3, 0, 40);
        x.set(3, 2, 99);
        due("loaves()", x.loaves(), 4);
        fine(x, 0, "eats 99;", 1);
        due("loaves()", x.loaves(), 198);
        due("loaves()", row(5).loaves(), 0);
    }

    private static void heir() {
        by("promise 18");
        PillarSaints x = crowd(2, 1, 2, 3, 4);
        for (int i = 0; i < 4; i++) {
            due("heir(" + i + ")", x.heir(i), i);
        }
        due("heir(4)", x.heir(4), -1);
        due("heir(13)", x.heir(13), -1);
        due("heir(14)", x.heir(14), -1);
        due("heir(-1)", x.heir(-1), -1);
        due("nothing stays", x.look(6), 0);
        x.act(2, 0, 0);
        due("heir(0)", x.heir(0), 1);
        due("heir(3)", x.heir(3), 0);
        due("without pillars", crowd(0, 1, 2).heir(0), -1);
        PillarSaints all = crowd(10, 1, 2, 3, 4, 5, 6, 7, 8, 9, 10, 11, 12, 13, 14);
        due("heir(13)", all.heir(13), 13);
        due("heir(14)", all.heir(14), -1);
    }

    private static void comes() {
        by("promise 19");
        PillarSaints x = row(10, 10, 10, 10);
        x.saint(1, 1, 0);
        x.saint(1, 1, 5);
        due("comes(7, 3)", x.comes(7, 3), 7);
        due("comes(7, 2)", x.comes(7, 2), 6);
        due("nobody there: as it was", x.comes(7, 0), 6);
        fine(x, 0, "leans 99;", 1);
        due("held", x.comes(95, 0), 99);
        due("comes(100, 0)", x.comes(100, 0), -100);
        due("comes(-100, 0)", x.comes(-100, 0), -100);
        due("comes(-99, 2)", x.comes(-99, 2), -88);
        due("comes(5, 4)", x.comes(5, 4), -100);
        due("comes(5, -1)", x.comes(5, -1), -100);
        due("nobody", row(10).comes(5, 0), -100);
        due("nothing stays", x.at(3, 2), -100);
    }

    private static void scandal() {
        by("promise 20");
        // those who come first sit highest, so the row from the lowest up is told backwards
        PillarSaints x = crowd(5, 90, 80, 0, -10, 3);
        due("scandal(0)", x.scandal(0), 3);
        due("scandal(1)", x.scandal(1), 23);
        due("scandal(2)", x.scandal(2), -1);
        due("scandal(-1)", x.scandal(-1), -1);
        PillarSaints same = crowd(4, 7, 7, 7);
        due("of several the fewest", same.scandal(0), 1);
        due("sum", same.scandal(1), 0);
        due("one alone", crowd(3, 7).scandal(0), -1);
        due("one alone", crowd(1, 7, 8).scandal(1), -1);
        due("two", crowd(2, 99, -99).scandal(1), 0);
    }

    private static void middle() {
        by("promise 21");
        PillarSaints x = row(50, 10, 20, 60);
        due("nobody sits", x.middle(0), 0);
        due("nobody sits", x.middle(1), 0);
        x.saint(1, 1, 1);
        due("one", x.middle(0), 3);
        x.saint(1, 1, 1);
        due("between, of several the least", x.middle(0), 0);
        due("way", x.middle(1), 40);
        x.saint(1, 1, 1);
        due("three", x.middle(0), 2);
        due("way", x.middle(1), 50);
        due("middle(2)", x.middle(2), -1);
        due("middle(-1)", x.middle(-1), -1);
        due("without pillars", new PillarSaints().middle(1), -1);
    }

    private static void follows() {
        by("promise 22");
        PillarSaints x = new PillarSaints();
        fine(x, 3, "3 so 4;2 so 3;0 and 1 so 2;15 so 15;4 and 15 so 14;", 5);
        due("follows(0)", x.follows(0), 0);
        due("follows(1)", x.follows(1), 1);
        due("follows(3)", x.follows(3), 31);
        due("follows(32771)", x.follows(32771), 32768 + 16384 + 31);
        due("follows(65535)", x.follows(65535), 65535);
        due("follows(65536)", x.follows(65536), -1);
        due("follows(-1)", x.follows(-1), -1);
        due("follows(MIN)", x.follows(Integer.MIN_VALUE), -1);
    }

    private static void gives() {
        by("promise 23");
        PillarSaints x = new PillarSaints();
        fine(x, 3, "0 and 1 and 2 so 5;3 and 4 so 5;6 and 2 so 5;7 so 3;5 so 7;5 so 9;", 6);
        due("gives(5, 0)", x.gives(5, 0), 2);
        due("gives(5, 1)", x.gives(5, 1), 8 + 16);
        due("gives(9, 1)", x.gives(9, 1), 32);
        due("gives(7, 1)", x.gives(7, 1), 32);
        due("gives(3, 1)", x.gives(3, 1), 32);
        due("gives(0, 0)", x.gives(0, 0), -1);
        due("gives(16, 0)", x.gives(16, 0), -1);
        due("gives(-1, 1)", x.gives(-1, 1), -1);
        due("gives(5, 3)", x.gives(5, 3), -1);
        due("gives(5, -1)", x.gives(5, -1), -1);
        due("idle", x.gives(-9, 2), 0);
        fine(x, 3, "0 so 1;1 so 2;0 so 2;0 so 1;4 so 4;0 and 9 so 1;", 6);
        due("idle", x.gives(0, 2), 5);
        fine(x, 3, "3 so 3;", 1);
        due("not from itself", x.gives(3, 0), -1);
        fine(x, 3, "0 and 1 and 2 and 3 and 4 and 5 and 6 and 7 and 8 and 9 and 10 and 11 and 12 and 13 and 14 so 15;", 1);
        due("all", x.gives(15, 0), 15);
        due("all", x.gives(15, 1), 32767);
    }

    private static void seen() {
        by("promise 24");
        PillarSaints x = row(3, 3, 5, 4, 5, 2);
        due("seen(0)", x.seen(0), 2);
        due("seen(1)", x.seen(1), 2);
        due("seen(2)", x.seen(2), 4 + 16);
        due("seen(3)", x.seen(3), -1);
        due("seen(-1)", x.seen(-1), -1);
        due("from the last up to the first", row(10, 9, 8, 7, 6, 5, 4, 3, 2, 1).seen(1), 10);
        due("from the last up to the first", row(9, 2).seen(1), 2);
        due("from the first up to the last", row(1, 2, 3).seen(0), 3);
        due("one pillar", row(1).seen(2), 1);
        due("two alike", row(2, 2).seen(2), 0);
        due("one pillar", row(1).seen(0), 1);
    }

    private static void hears() {
        by("promise 25");
        PillarSaints x = row(5, 3, 4, 3, 5, 9);
        due("hears(0, 0)", x.hears(0, 0), 3);
        due("hears(0, 1)", x.hears(0, 1), 4);
        due("as tall between", row(5, 3, 3, 9).hears(1, 0), 2);
        due("hears(2, 0)", x.hears(2, 0), 4);
        due("of several the least", x.hears(2, 1), 0);
        due("hears(5, 1)", x.hears(5, 1), 4);
        due("alone", row(5).hears(0, 0), 0);
        due("alone", row(5).hears(0, 1), -1);
        due("hears(6, 0)", x.hears(6, 0), -1);
        due("hears(-1, 0)", x.hears(-1, 0), -1);
        due("hears(0, 2)", x.hears(0, 2), -1);
        due("hears(0, -1)", x.hears(0, -1), -1);
    }

    private static void builds() {
        by("promise 26");
        PillarSaints x = new PillarSaints();
        int[][] bad = {{0, 1}, {31, 1}, {1, 0}, {1, 31}, {-2, 5}};
        for (int[] b : bad) {
            due("build", x.build(b[0], b[1]), -1);
        }
        x.act(0, 0, 1);
        due("build", x.build(30, 30), 1);
        due("build", x.build(1, 1), 2);
        due("build", x.build(3, 1), 3);
        due("build", x.build(2, 2), 4);
        due("nothing forgotten", x.look(15), 1);
        by("promise 27");
        due("builds(0)", x.builds(0), 30 * 30 + 31 + 33 * 2 + 36);
        due("builds(10)", x.builds(10), 0);
        due("builds(11)", x.builds(11), 1);
        due("builds(12)", x.builds(12), 3);
        due("builds(13)", x.builds(13), 2);
        due("builds(14)", x.builds(14), -1);
        due("builds(9)", x.builds(9), -1);
        due("builds(1)", x.builds(1), -1);
        due("builds(-1)", x.builds(-1), -1);
        by("promise 26");
        due("build", x.build(1, 30), 5);
        due("build", x.build(1, 30), 6);
        due("build", x.build(1, 30), 7);
        due("build", x.build(1, 30), -1);
        due("builds(10)", x.builds(10), 4);
        due("build none", x.build(-1, 77), 0);
        due("look(14)", x.look(14), 0);
        due("builds(0)", x.builds(0), 0);
        due("builds(10)", x.builds(10), -1);
    }

    private static void gone() {
        by("promise 28");
        PillarSaints x = new PillarSaints();
        due("gone", x.gone(0, 20, 20), 0);
        due("gone", x.gone(1000, 0, 40), 1000000);
        due("gone", x.gone(1, 1, 1), 3988);
        due("gone", x.gone(333, 1, 2), 332999);
        int[][] bad = {{-1, 0, 0}, {1001, 0, 0}, {5, -1, 0}, {5, 21, 30}, {5, 3, 2}, {5, 0, 41}};
        for (int[] b : bad) {
            due("gone", x.gone(b[0], b[1], b[2]), -1);
        }
        due("gone", x.gone(5, 20, 40) >= 0, true);
    }

    private static void lap() {
        by("promise 29");
        PillarSaints x = row(10, 10, 10, 10, 10, 50);
        due("lap", x.lap(0, 4, 0, 0), 2);
        due("lap", x.lap(0, 4, 0, 1), 1);
        due("lap", x.lap(4, 1, 0, 0), 2);
        due("lap", x.lap(4, 1, 0, 1), 2);
        due("too far apart", x.lap(0, 5, 39, 0), -1);
        due("too far apart", x.lap(0, 5, 39, 1), -1);
        due("just", x.lap(0, 5, 40, 0), 3);
        due("just", x.lap(0, 5, 40, 1), 3);
        due("itself", x.lap(5, 5, 0, 0), 0);
        due("itself", x.lap(5, 5, 0, 1), 1);
        due("lap", x.lap(0, 6, 5, 0), -1);
        due("lap", x.lap(-1, 0, 5, 0), -1);
        due("lap", x.lap(0, 0, 100, 0), -1);
        due("lap", x.lap(0, 0, -1, 0), -1);
        due("lap", x.lap(0, 0, 5, 2), -1);
        due("lap", x.lap(0, 0, 5, -1), -1);
    }

    private static void game() {
        by("promise 30");
        due("nobody", row(5, 5).game(0), -1);
        due("none to take", crowd(2, 0, 0).game(0), -1);
        // pillar 0: one at a time, so its heap counts modulo 2
        due("one heap", crowd(1, -3).game(0), 0);
        due("one heap", crowd(1, -3).game(1), 1);
        due("one heap lost", crowd(1, 4).game(0), -1);
        // pillar 1 of 5 counts 2, pillar 0 of 1 counts 1: from pillar 1 one goes
        PillarSaints x = crowd(2, 5, 1);
        due("game(0)", x.game(0), 1);
        due("game(1)", x.game(1), 1);
        due("game(2)", x.game(2), -1);
        due("game(-1)", x.game(-1), -1);
        // pillar 1 of 3 counts 0, pillar 0 of 2 counts 0
        due("who begins loses", crowd(2, -3, 2).game(0), -1);
    }

    private static void undo() {
        by("promise 31");
        PillarSaints x = crowd(2, 5, -40, 9);
        due("undo()", x.undo(), false);
        x.act(0, 0, 3);
        x.act(1, 0, 8);
        int lines = x.look(8);
        fine(x, 0, "dies 1000 when place=2;dies 0;", 2);
        fine(x, 1, "day 0 is 7;", 1);
        due("days(1)", x.days(1), 1);
        due("weather", x.look(5), 7);
        due("undo()", x.undo(), true);
        due("day", x.look(2), 0);
        due("state", x.look(9), 0);
        due("book", x.look(8), lines);
        due("weather", x.look(5), 0);
        due("basket", x.look(3), 3);
        due("advice", x.at(1, 2), 8);
        due("doctrine", x.of(1, 2), -40);
        due("dead", x.look(6), 0);
        due("sits", x.of(0, 5), 1);
        due("the law stays", x.look(10), 2);
        due("undo()", x.undo(), true);
        due("advice", x.at(1, 2), -100);
        due("undo()", x.undo(), true);
        due("basket", x.look(3), 0);
        due("undo()", x.undo(), false);
        for (int i = 0; i < 9; i++) {
            x.act(3, 0, 20 + i);
        }
        due("six are kept", x.look(15), 6);
        for (int i = 0; i < 6; i++) {
            due("undo()", x.undo(), true);
        }
        due("tall", x.at(0, 0), 22);
        due("undo()", x.undo(), false);
        x.days(1);
        x.image(true);
        due("taking forgets not", x.look(15), 1);
        x.image(false);
        due("going back forgets", x.look(15), 0);
        x.days(1);
        x.saint(1, 1, 1);
        due("a saint forgets", x.look(15), 0);
        x.days(1);
        x.pillar(3);
        due("a pillar forgets", x.look(15), 0);
        x.days(1);
        x.saint(1, 1, 100);
        x.pillar(0);
        x.build(3, 3);
        x.feed(1, 2, 3, 4, 5);
        x.end(0);
        due("what is refused forgets not", x.look(15), 1);
    }

    private static void image() {
        by("promise 32");
        PillarSaints x = crowd(2, 5, 6, 7);
        due("image(false)", x.image(false), false);
        fine(x, 0, "eats 3;dies 0;", 2);
        fine(x, 1, "day 3 is 3;", 1);
        fine(x, 2, "on 3 say 3;", 1);
        fine(x, 3, "1 so 2;", 1);
        x.build(4, 5);
        x.state(99);
        x.act(0, 0, 50);
        due("image(true)", x.image(true), true);
        int lines = x.look(8);
        for (int round = 0; round < 2; round++) {
            x.days(9);
            x.pillar(7);
            x.saint(3, 3, 3);
            x.build(-1, 0);
            x.state(1);
            for (int k = 0; k < 4; k++) {
                fine(x, k, "", 0);
            }
            faulty(x, 1, "x", 1, 0);
            x.feed(0, 0, 0, 0, 0);
            due("image(false)", x.image(false), true);
            due("fault stays", x.fault(0), 1);
            due("tape stays", x.feed(0, 0, 0, 0, 0), 40);
            due("pillars", x.look(0), 2);
            due("saints", x.look(1), 3);
            due("day", x.look(2), 0);
            due("basket", x.look(3), 50);
            due("book", x.look(8), lines);
            due("state", x.look(9), 99);
            due("law", x.look(10), 2);
            due("law", x.of(0, 7), 3);
            due("sky", x.sky(3), 3);
            due("plan", x.look(12), 1);
            due("tenets", x.follows(2), 6);
            due("builds", x.builds(0), 20);
            due("book's first line", x.book(0, 3), 1);
            due("undo", x.look(15), 0);
        }
        // lines of the book that an undo takes back come again with the image
        PillarSaints y = crowd(1, 5);
        y.act(2, 0, 0);
        y.image(true);
        y.undo();
        y.act(0, 0, 1);
        y.days(1);
        due("ate", y.book(1, 1), 0);
        y.image(false);
        due("down", y.book(1, 1), 3);
    }

    private static void look() {
        by("promise 33");
        PillarSaints x = crowd(2, 5, 6, 7);
        fine(x, 0, "dies 1000 when doctrine=6;dies 0;leans 0;", 3);
        fine(x, 1, "day 0 is 4;day 1 is 4;", 2);
        fine(x, 2, "on 900 say 3;", 1);
        fine(x, 3, "1 so 2;1 so 2;1 so 2;1 so 2;", 4);
        x.build(1, 1);
        x.act(0, 0, 60);
        x.days(1);
        x.act(0, 0, 7);
        int[] want = {2, 3, 1, 7, 58, 4, 2, 0, 6, 1013904223, 3, 2, 1, 4, 1, 3};
        for (int what = 0; what < want.length; what++) {
            due("look(" + what + ")", x.look(what), want[what]);
        }
        due("look(16)", x.look(16), -1);
        due("look(-1)", x.look(-1), -1);
    }
}

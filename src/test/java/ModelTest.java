import java.util.ArrayList;
import java.util.Arrays;
import java.util.List;
import java.util.Random;

/** Random runs of calls, each answer against a plain second telling of the document that searches where it can. */
public final class ModelTest {
    static final int NONE = -1;
    static int wrong = 0;

    public static void main(String[] args) {
        int runs = args.length > 0 ? Integer.parseInt(args[0]) : 2000;
        int first = args.length > 1 ? Integer.parseInt(args[1]) : 0;
        for (int seed = first; seed < first + runs && wrong < 10; seed++) {
            new Run(seed).go();
        }
        System.out.println(wrong == 0 ? "model: all answers agree" : "model: " + wrong + " answers differ");
        if (wrong != 0) {
            System.exit(1);
        }
    }

    // ------------------------------------------------------------------ the model

    static final class Fault extends RuntimeException {
        final int kind;
        final int place;

        Fault(int kind, int place) {
            this.kind = kind;
            this.place = place;
        }
    }

    static final class Saint implements Cloneable {
        int age, faith, doctrine, hunger;
        boolean dead;

        Saint copy() {
            Saint s = new Saint();
            s.age = age;
            s.faith = faith;
            s.doctrine = doctrine;
            s.hunger = hunger;
            s.dead = dead;
            return s;
        }
    }

    /** What goes back by undo. */
    static final class Sands {
        List<Saint> saints = new ArrayList<>();
        List<Integer> tall = new ArrayList<>();
        List<Integer> sits = new ArrayList<>();
        List<Integer> advice = new ArrayList<>();
        List<Integer> ground = new ArrayList<>();
        List<int[]> book = new ArrayList<>();
        int basket, weather, day, left, state;

        Sands copy() {
            Sands c = new Sands();
            for (Saint s : saints) {
                c.saints.add(s.copy());
            }
            c.tall.addAll(tall);
            c.sits.addAll(sits);
            c.advice.addAll(advice);
            c.ground.addAll(ground);
            c.book.addAll(book);
            c.basket = basket;
            c.weather = weather;
            c.day = day;
            c.left = left;
            c.state = state;
            return c;
        }

        void note(int what, int which, int much) {
            if (book.size() < 150) {
                book.add(new int[] {day, what, which, much});
            }
        }

        void climb() {
            for (int p = tall.size() - 1; p >= 0; p--) {
                if (sits.get(p) != null) {
                    continue;
                }
                int from = p - 1;
                while (from >= 0 && sits.get(from) == null) {
                    from--;
                }
                Integer who = null;
                if (from >= 0) {
                    who = sits.get(from);
                    sits.set(from, null);
                } else if (!ground.isEmpty()) {
                    who = ground.remove(0);
                }
                sits.set(p, who);
                if (who != null) {
                    note(2, who, p);
                }
            }
        }

        boolean down(int who) {
            int p = sits.indexOf(who);
            if (p < 0) {
                return false;
            }
            note(3, who, p);
            sits.set(p, null);
            ground.add(who);
            climb();
            return true;
        }

        int top() {
            int p = tall.size() - 1;
            while (p >= 0 && sits.get(p) == null) {
                p--;
            }
            return p;
        }

        void die(int who) {
            saints.get(who).dead = true;
            int p = sits.indexOf(who);
            if (p >= 0) {
                sits.set(p, null);
            }
            ground.remove((Integer) who);
        }

        int draw(int m) {
            state = state * 1664525 + 1013904223;
            return (state >>> 8) % m;
        }
    }

    static final class Line {
        String word;
        Node value;
        Node when;
    }

    static final class Node {
        String kind;
        int number;
        Node a, b;

        Node(String kind, int number, Node a, Node b) {
            this.kind = kind;
            this.number = number;
            this.a = a;
            this.b = b;
        }
    }

    static final class Texts {
        List<Line> law = new ArrayList<>();
        List<int[]> sky = new ArrayList<>();
        List<int[]> plan = new ArrayList<>();
        List<int[]> tenets = new ArrayList<>();
        List<int[]> builds = new ArrayList<>();

        Texts copy() {
            Texts t = new Texts();
            t.law = new ArrayList<>(law);
            t.sky = new ArrayList<>(sky);
            t.plan = new ArrayList<>(plan);
            t.tenets = new ArrayList<>(tenets);
            t.builds = new ArrayList<>(builds);
            return t;
        }
    }

    static final class Parser {
        static final String[] WORDS = {
            "eats dies leans when or and not age faith doctrine hunger place tall weather above day",
            "day is", "on loaves say down build curse", "and so"};
        final String text;
        final List<String> words;
        final int pillars, saints;
        int at;
        int lines;

        Parser(int k, String text, int pillars, int saints) {
            this.text = text;
            this.words = Arrays.asList(WORDS[k].split(" "));
            this.pillars = pillars;
            this.saints = saints;
        }

        int start() {
            while (at < text.length() && (text.charAt(at) == ' ' || text.charAt(at) == '\n')) {
                at++;
            }
            return at;
        }

        /** The token that is next: "" at the end, "?" for what is none. */
        String peek() {
            int from = start();
            if (from >= text.length()) {
                return "";
            }
            String rest = text.substring(from);
            String run = rest.replaceFirst("(?s)^([a-zA-Z]+|[0-9]+|.).*$", "$1");
            char c = run.charAt(0);
            if (Character.isDigit(c) && c < 128) {
                return run.length() <= 4 ? run : "?";
            }
            if (run.matches("[a-zA-Z]+")) {
                return words.contains(run) ? run : "?";
            }
            return ";+-*/()<=>".indexOf(c) >= 0 ? run : "?";
        }

        String next() {
            String t = peek();
            at = start() + t.length();
            return t;
        }

        void want(String token) {
            if (!peek().equals(token)) {
                throw new Fault(1, start());
            }
            next();
        }

        boolean isNumber() {
            return peek().matches("[0-9]+");
        }

        int number(int low, int high) {
            if (!isNumber()) {
                throw new Fault(1, start());
            }
            int place = start();
            int v = Integer.parseInt(next());
            if (v < low || v > high) {
                throw new Fault(2, place);
            }
            return v;
        }

        void head(String... heads) {
            if (!Arrays.asList(heads).contains(peek())) {
                throw new Fault(1, start());
            }
            if (++lines > 16) {
                throw new Fault(3, start());
            }
        }

        List<Line> law() {
            List<Line> all = new ArrayList<>();
            while (!peek().isEmpty()) {
                head("eats", "dies", "leans");
                Line l = new Line();
                l.word = next();
                l.value = expression();
                if (peek().equals("when")) {
                    next();
                    l.when = either(0);
                }
                want(";");
                all.add(l);
            }
            return all;
        }

        Node either(int open) {
            Node n = both(open);
            while (peek().equals("or")) {
                next();
                n = new Node("or", 0, n, both(open));
            }
            return n;
        }

        Node both(int open) {
            Node n = single(open);
            while (peek().equals("and")) {
                next();
                n = new Node("and", 0, n, single(open));
            }
            return n;
        }

        Node single(int open) {
            String t = peek();
            if (t.equals("not") || t.equals("(")) {
                if (open + 1 == 9) {
                    throw new Fault(3, start());
                }
                next();
                if (t.equals("not")) {
                    return new Node("not", 0, single(open + 1), null);
                }
                Node n = either(open + 1);
                want(")");
                return n;
            }
            Node left = expression();
            String sign = peek();
            if (!sign.equals("<") && !sign.equals("=") && !sign.equals(">")) {
                throw new Fault(1, start());
            }
            next();
            return new Node(sign, 0, left, expression());
        }

        Node expression() {
            Node n = term();
            while (peek().equals("+") || peek().equals("-")) {
                String sign = next();
                n = new Node(sign, 0, n, term());
            }
            return n;
        }

        Node term() {
            Node n = unit();
            while (peek().equals("*") || peek().equals("/")) {
                String sign = next();
                n = new Node(sign, 0, n, sign.equals("*") ? unit() : new Node("number", number(1, 9999), null, null));
            }
            return n;
        }

        Node unit() {
            if (isNumber()) {
                return new Node("number", number(0, 9999), null, null);
            }
            if (!Arrays.asList("age", "faith", "doctrine", "hunger", "place", "tall", "weather", "above", "day").contains(peek())) {
                throw new Fault(1, start());
            }
            return new Node(next(), 0, null, null);
        }

        List<int[]> sky() {
            List<int[]> all = new ArrayList<>();
            while (!peek().isEmpty()) {
                head("day");
                next();
                int day = number(0, 999);
                want("is");
                all.add(new int[] {day, number(0, 9)});
                want(";");
            }
            return all;
        }

        List<int[]> plan() {
            List<int[]> all = new ArrayList<>();
            while (!peek().isEmpty()) {
                head("on");
                next();
                int day = number(0, 999);
                int deed = Arrays.asList("loaves", "say", "down", "build", "curse").indexOf(peek());
                if (deed < 0) {
                    throw new Fault(1, start());
                }
                next();
                int[] line = {day, deed, 0, 0};
                if (deed == 0) {
                    line[2] = number(0, 999);
                } else if (deed == 1) {
                    line[2] = number(0, 99);
                } else if (deed == 3) {
                    line[2] = number(0, pillars - 1);
                    line[3] = number(1, 99);
                } else {
                    line[2] = number(0, saints - 1);
                }
                want(";");
                all.add(line);
            }
            return all;
        }

        List<int[]> tenets() {
            List<int[]> all = new ArrayList<>();
            while (!peek().isEmpty()) {
                int place = start();
                int set = 1 << number(0, 15);
                if (++lines > 16) {
                    throw new Fault(3, place);
                }
                while (peek().equals("and")) {
                    next();
                    set |= 1 << number(0, 15);
                }
                want("so");
                all.add(new int[] {set, number(0, 15)});
                want(";");
            }
            return all;
        }
    }

    static final class Model {
        Sands now = new Sands();
        Texts texts = new Texts();
        Sands pictureSands;
        Texts pictureTexts;
        List<Sands> past = new ArrayList<>();
        StringBuilder tape = new StringBuilder();
        int fault = 0;
        int faultPlace = NONE;

        static int hold(int v, int low, int high) {
            return v < low ? low : v > high ? high : v;
        }

        static boolean in(int v, int low, int high) {
            return low <= v && v <= high;
        }

        int above(Sands w, int s) {
            int p = w.sits.indexOf(s);
            if (p >= 0) {
                for (int q = p + 1; q < w.tall.size(); q++) {
                    if (w.sits.get(q) != null) {
                        return w.saints.get(w.sits.get(q)).doctrine;
                    }
                }
            }
            return w.saints.get(s).doctrine;
        }

        int value(Node n, Sands w, int s) {
            Saint saint = w.saints.get(s);
            int p = w.sits.indexOf(s);
            switch (n.kind) {
                case "number": return n.number;
                case "age": return saint.age;
                case "faith": return saint.faith;
                case "doctrine": return saint.doctrine;
                case "hunger": return saint.hunger;
                case "place": return p < 0 ? 0 : p + 1;
                case "tall": return p < 0 ? 0 : w.tall.get(p);
                case "weather": return w.weather;
                case "above": return above(w, s);
                case "day": return w.day;
                case "+": return value(n.a, w, s) + value(n.b, w, s);
                case "-": return value(n.a, w, s) - value(n.b, w, s);
                case "*": return value(n.a, w, s) * value(n.b, w, s);
                case "/": return value(n.a, w, s) / value(n.b, w, s);
                default: throw new IllegalStateException(n.kind);
            }
        }

        boolean so(Node n, Sands w, int s) {
            switch (n.kind) {
                case "or": return so(n.a, w, s) || so(n.b, w, s);
                case "and": return so(n.a, w, s) && so(n.b, w, s);
                case "not": return !so(n.a, w, s);
                case "<": return value(n.a, w, s) < value(n.b, w, s);
                case "=": return value(n.a, w, s) == value(n.b, w, s);
                default: return value(n.a, w, s) > value(n.b, w, s);
            }
        }

        int tells(String word, Sands w, int s) {
            Saint saint = w.saints.get(s);
            int v;
            if (word.equals("eats")) {
                v = 1 + saint.hunger / 20;
            } else if (word.equals("dies")) {
                v = (saint.age > 70 ? (saint.age - 70) * 5 : 0) + (saint.hunger > 80 ? (saint.hunger - 80) * 20 : 0);
            } else {
                v = Math.floorDiv(above(w, s) - saint.doctrine, 4);
            }
            for (Line l : texts.law) {
                if (l.word.equals(word) && (l.when == null || so(l.when, w, s))) {
                    v = value(l.value, w, s);
                    break;
                }
            }
            return word.equals("eats") ? hold(v, 0, 99) : word.equals("dies") ? hold(v, 0, 1000) : hold(v, -99, 99);
        }

        int come(Sands w, int p, int v) {
            Integer who = w.sits.get(p);
            return who == null ? v : hold(v + Math.floorDiv(tells("leans", w, who), 9), -99, 99);
        }

        int sky(int day) {
            int v = NONE;
            for (int[] l : texts.sky) {
                if (l[0] == day) {
                    v = l[1];
                }
            }
            return v;
        }

        int aDay(Sands w, boolean thought) {
            for (int[] l : texts.plan) {
                if (l[0] != w.day) {
                    continue;
                }
                if (l[1] == 0) {
                    w.basket = l[2];
                } else if (l[1] == 1) {
                    if (w.top() >= 0) {
                        w.advice.set(w.top(), l[2]);
                    }
                } else if (l[1] == 2) {
                    w.down(l[2]);
                } else if (l[1] == 3) {
                    w.tall.set(l[2], l[3]);
                } else if (!w.saints.get(l[2]).dead) {
                    w.saints.get(l[2]).hunger = 99;
                }
            }
            if (sky(w.day) != NONE) {
                w.weather = sky(w.day);
            }
            for (int p = w.tall.size() - 1; p >= 0; p--) {
                Integer who = w.sits.get(p);
                if (who == null) {
                    continue;
                }
                Saint s = w.saints.get(who);
                int eats = tells("eats", w, who);
                int takes = Math.min(eats, w.basket);
                w.basket -= takes;
                s.hunger = takes == eats ? hold(s.hunger - 10, 0, 99) : hold(s.hunger + 5 * (eats - takes), 0, 99);
                if (takes > 0) {
                    w.note(0, who, takes);
                }
            }
            w.left += w.basket;
            w.basket = 0;
            for (int who : w.ground) {
                w.saints.get(who).hunger = hold(w.saints.get(who).hunger + 1, 0, 99);
            }
            if (!w.tall.isEmpty()) {
                w.advice.set(0, null);
            }
            for (int p = 0; p + 1 < w.tall.size(); p++) {
                Integer v = w.advice.get(p + 1);
                if (v != null) {
                    w.advice.set(p, come(w, p, v));
                    w.advice.set(p + 1, null);
                    w.note(4, p, w.advice.get(p));
                }
            }
            for (int p = 0; p < w.tall.size(); p++) {
                Integer who = w.sits.get(p);
                if (who != null) {
                    Saint s = w.saints.get(who);
                    s.doctrine = hold(s.doctrine + tells("leans", w, who), -99, 99);
                }
            }
            int died = 0;
            for (int i = 0; i < w.saints.size(); i++) {
                Saint s = w.saints.get(i);
                if (s.dead) {
                    continue;
                }
                s.age = Math.min(120, s.age + 1);
                int dies = tells("dies", w, i);
                if (thought ? dies >= 500 : dies > 0 && w.draw(1000) < dies) {
                    w.note(1, i, s.age);
                    w.die(i);
                    died++;
                }
            }
            w.climb();
            w.day++;
            return died;
        }

        void keep() {
            past.add(now.copy());
            if (past.size() > 6) {
                past.remove(0);
            }
        }

        int state(int v) {
            past.clear();
            int was = now.state;
            now.state = v;
            return was;
        }

        int pillar(int tall) {
            if (!in(tall, 1, 99) || now.tall.size() == 10) {
                return NONE;
            }
            past.clear();
            now.tall.add(tall);
            now.sits.add(null);
            now.advice.add(null);
            now.climb();
            return now.tall.size() - 1;
        }

        int saint(int age, int faith, int doctrine) {
            if (!in(age, 0, 120) || !in(faith, 0, 9) || !in(doctrine, -99, 99) || now.saints.size() == 14) {
                return NONE;
            }
            past.clear();
            Saint s = new Saint();
            s.age = age;
            s.faith = faith;
            s.doctrine = doctrine;
            now.saints.add(s);
            now.ground.add(now.saints.size() - 1);
            now.climb();
            return now.saints.size() - 1;
        }

        int set(int what, int who, int v) {
            int[] low = {0, 0, -99, 0, 0};
            int[] high = {120, 9, 99, 99, 9};
            if (!in(what, 0, 4) || !in(v, low[what], high[what]) || what < 4 && !in(who, 0, now.saints.size() - 1)) {
                return 0;
            }
            past.clear();
            if (what == 4) {
                now.weather = v;
                return 1;
            }
            Saint s = now.saints.get(who);
            if (what == 0) {
                s.age = v;
            } else if (what == 1) {
                s.faith = v;
            } else if (what == 2) {
                s.doctrine = v;
            } else {
                s.hunger = v;
            }
            return 1;
        }

        int act(int what, int who, int v) {
            Sands before = now.copy();
            boolean done = false;
            if (what == 0 && in(v, 1, 999)) {
                now.basket = Math.min(999, now.basket + v);
                done = true;
            } else if (what == 1 && in(v, -99, 99) && now.top() >= 0) {
                now.advice.set(now.top(), v);
                done = true;
            } else if (what == 2) {
                done = now.down(who);
            } else if (what == 3 && in(who, 0, now.tall.size() - 1) && in(v, 1, 99)) {
                now.tall.set(who, v);
                done = true;
            }
            if (done) {
                past.add(before);
                if (past.size() > 6) {
                    past.remove(0);
                }
            }
            return done ? 1 : 0;
        }

        int days(int n) {
            if (!in(n, 1, 60) || now.day + n > 9999) {
                return NONE;
            }
            int died = 0;
            for (int i = 0; i < n; i++) {
                keep();
                died += aDay(now, false);
            }
            return died;
        }

        int feed(int... numbers) {
            if (tape.length() + 20 > 400) {
                return NONE;
            }
            for (int n : numbers) {
                tape.append((char) (n >>> 24)).append((char) (n >>> 16 & 255)).append((char) (n >>> 8 & 255)).append((char) (n & 255));
            }
            return tape.length();
        }

        int end(int n) {
            if (n < 0 || n > tape.length()) {
                return 0;
            }
            tape.setLength(n);
            return 1;
        }

        int text(int k) {
            fault = 0;
            faultPlace = NONE;
            String told = tape.toString();
            tape.setLength(0);
            if (!in(k, 0, 3)) {
                return NONE;
            }
            Parser p = new Parser(k, told, now.tall.size(), now.saints.size());
            try {
                if (k == 0) {
                    texts.law = p.law();
                    return texts.law.size();
                }
                if (k == 1) {
                    texts.sky = p.sky();
                    return texts.sky.size();
                }
                if (k == 2) {
                    texts.plan = p.plan();
                    past.clear();
                    return texts.plan.size();
                }
                texts.tenets = p.tenets();
                return texts.tenets.size();
            } catch (Fault f) {
                fault = f.kind;
                faultPlace = f.place;
                return NONE;
            }
        }

        int fault(int what) {
            return what == 0 ? fault : what == 1 ? faultPlace : NONE;
        }

        int of(int i, int what) {
            if (!in(i, 0, now.saints.size() - 1)) {
                return -100;
            }
            Saint s = now.saints.get(i);
            switch (what) {
                case 0: return s.age;
                case 1: return s.faith;
                case 2: return s.doctrine;
                case 3: return s.hunger;
                case 4: return s.dead ? 1 : 0;
                case 5: return now.sits.indexOf(i);
                case 6: return now.ground.indexOf(i);
                case 7: return tells("eats", now, i);
                case 8: return tells("dies", now, i);
                case 9: return tells("leans", now, i);
                default: return -100;
            }
        }

        int at(int p, int what) {
            if (!in(p, 0, now.tall.size() - 1) || !in(what, 0, 2)) {
                return -200;
            }
            if (what == 0) {
                return now.tall.get(p);
            }
            Integer v = what == 1 ? now.sits.get(p) : now.advice.get(p);
            return v != null ? v : what == 1 ? NONE : -100;
        }

        int book(int i, int what) {
            return in(i, 0, now.book.size() - 1) && in(what, 0, 3) ? now.book.get(i)[what] : -100;
        }

        int goes(int n, int what) {
            if (!in(n, 1, 60) || !in(what, 0, 3)) {
                return -100;
            }
            Sands w = now.copy();
            for (int i = 0; i < n; i++) {
                aDay(w, true);
            }
            int dead = 0;
            int hunger = 0;
            for (Saint s : w.saints) {
                dead += s.dead ? 1 : 0;
                hunger += s.dead ? 0 : s.hunger;
            }
            if (what == 3) {
                return w.tall.isEmpty() || w.advice.get(0) == null ? 0 : w.advice.get(0);
            }
            return what == 0 ? dead : what == 1 ? w.left : hunger;
        }

        /** By trying: the first basket of which nobody lacks. */
        int loaves() {
            for (int basket = 0;; basket++) {
                int left = basket;
                boolean enough = true;
                for (int p = now.tall.size() - 1; p >= 0; p--) {
                    if (now.sits.get(p) != null) {
                        int eats = tells("eats", now, now.sits.get(p));
                        enough &= eats <= left;
                        left -= Math.min(left, eats);
                    }
                }
                if (enough) {
                    return basket;
                }
            }
        }

        int heir(int n) {
            if (!in(n, 0, 13)) {
                return NONE;
            }
            List<Integer> row = new ArrayList<>();
            for (int p = now.tall.size() - 1; p >= 0; p--) {
                if (now.sits.get(p) != null) {
                    row.add(now.sits.get(p));
                }
            }
            if (!now.tall.isEmpty()) {
                row.addAll(now.ground);
            }
            return n < row.size() ? row.get(n) : NONE;
        }

        int comes(int v, int pillar) {
            int top = now.top();
            if (!in(v, -99, 99) || !in(pillar, 0, now.tall.size() - 1) || pillar > top) {
                return -100;
            }
            return pillar == top ? v : come(now, pillar, comes(v, pillar + 1));
        }

        List<Integer> doctrines() {
            List<Integer> row = new ArrayList<>();
            for (Integer who : now.sits) {
                if (who != null) {
                    row.add(now.saints.get(who).doctrine);
                }
            }
            return row;
        }

        static int range(List<Integer> row) {
            return java.util.Collections.max(row) - java.util.Collections.min(row);
        }

        int scandal(int what) {
            List<Integer> row = doctrines();
            if (row.size() < 2 || !in(what, 0, 1)) {
                return NONE;
            }
            int best = Integer.MAX_VALUE;
            int place = 0;
            for (int i = row.size() - 1; i >= 1; i--) {
                int sum = range(row.subList(0, i)) + range(row.subList(i, row.size()));
                if (sum <= best) {
                    best = sum;
                    place = i;
                }
            }
            return what == 0 ? place : best;
        }

        int middle(int what) {
            if (now.tall.isEmpty() || !in(what, 0, 1)) {
                return NONE;
            }
            int best = Integer.MAX_VALUE;
            int place = 0;
            for (int p = now.tall.size() - 1; p >= 0; p--) {
                int sum = 0;
                for (int q = 0; q < now.tall.size(); q++) {
                    sum += now.sits.get(q) == null ? 0 : Math.abs(now.tall.get(p) - now.tall.get(q));
                }
                if (sum <= best) {
                    best = sum;
                    place = p;
                }
            }
            return what == 0 ? place : best;
        }

        static int closure(List<int[]> lines, int set) {
            int all = set;
            for (int i = 0; i < 17; i++) {
                for (int[] l : lines) {
                    if ((l[0] & all) == l[0]) {
                        all |= 1 << l[1];
                    }
                }
            }
            return all;
        }

        int follows(int set) {
            return (set & ~65535) != 0 ? NONE : closure(texts.tenets, set);
        }

        int gives(int tenet, int what) {
            if (what == 2) {
                int idle = 0;
                for (int i = 0; i < texts.tenets.size(); i++) {
                    List<int[]> others = new ArrayList<>(texts.tenets);
                    int[] l = others.remove(i);
                    idle += closure(others, l[0]) >> l[1] & 1;
                }
                return idle;
            }
            if (!in(tenet, 0, 15) || !in(what, 0, 1)) {
                return NONE;
            }
            int best = NONE;
            for (int set = 0; set < 65536; set++) {
                if ((set >> tenet & 1) == 0 && (best == NONE || Integer.bitCount(set) < Integer.bitCount(best))
                        && (closure(texts.tenets, set) >> tenet & 1) != 0) {
                    best = set;
                }
            }
            return best == NONE ? NONE : what == 0 ? Integer.bitCount(best) : best;
        }

        int seen(int what) {
            if (!in(what, 0, 2)) {
                return NONE;
            }
            int n = now.tall.size();
            int count = 0;
            int set = 0;
            for (int p = 0; p < n; p++) {
                boolean sees = true;
                for (int q = what == 0 ? 0 : p + 1; q < (what == 0 ? p : n); q++) {
                    sees &= now.tall.get(q) < now.tall.get(p);
                }
                count += sees ? 1 : 0;
                boolean stork = true;
                for (int q = 0; q < n; q++) {
                    stork &= Math.abs(p - q) != 1 || now.tall.get(q) < now.tall.get(p);
                }
                set |= stork ? 1 << p : 0;
            }
            return what == 2 ? set : count;
        }

        int hears(int pillar, int what) {
            int n = now.tall.size();
            if (!in(pillar, 0, n - 1) || !in(what, 0, 1)) {
                return NONE;
            }
            int count = 0;
            int far = NONE;
            for (int distance = 1; distance < n; distance++) {
                for (int p : new int[] {pillar + distance, pillar - distance}) {
                    if (!in(p, 0, n - 1)) {
                        continue;
                    }
                    boolean free = true;
                    for (int q = 0; q < n; q++) {
                        if ((q - p) * (q - pillar) < 0) {
                            free &= now.tall.get(q) < now.tall.get(p) || now.tall.get(q) < now.tall.get(pillar);
                            free &= now.tall.get(q) < Math.min(now.tall.get(p), now.tall.get(pillar));
                        }
                    }
                    if (free) {
                        count++;
                        far = p;
                    }
                }
            }
            return what == 0 ? count : far;
        }

        int build(int days, int worth) {
            if (days == NONE) {
                texts.builds.clear();
                return 0;
            }
            if (!in(days, 1, 30) || !in(worth, 1, 30) || texts.builds.size() == 7) {
                return NONE;
            }
            texts.builds.add(new int[] {days, worth});
            return texts.builds.size();
        }

        int bestSum;
        List<Integer> bestOrder;

        void orders(List<Integer> order, int day, int sum) {
            if (order.size() == texts.builds.size()) {
                if (bestOrder == null || sum < bestSum) {
                    bestSum = sum;
                    bestOrder = new ArrayList<>(order);
                }
                return;
            }
            for (int i = 0; i < texts.builds.size(); i++) {
                if (!order.contains(i)) {
                    int ends = day + texts.builds.get(i)[0];
                    order.add(i);
                    orders(order, ends, sum + ends * texts.builds.get(i)[1]);
                    order.remove(order.size() - 1);
                }
            }
        }

        int builds(int what) {
            if (what != 0 && !in(what, 10, 9 + texts.builds.size())) {
                return NONE;
            }
            bestOrder = null;
            orders(new ArrayList<>(), 0, 0);
            return what == 0 ? bestSum : bestOrder.get(what - 10);
        }

        int gone(int p, int n, int m) {
            if (!in(p, 0, 1000) || !in(n, 0, 20) || !in(m, n, 40)) {
                return NONE;
            }
            java.math.BigInteger million = java.math.BigInteger.valueOf(1000000);
            java.math.BigInteger q = java.math.BigInteger.valueOf(p * 1000L);
            for (int i = 0; i < m; i++) {
                java.math.BigInteger f = java.math.BigInteger.valueOf(i < n ? 8 : 2);
                java.math.BigInteger g = java.math.BigInteger.valueOf(i < n ? 2 : 8);
                q = q.multiply(f).multiply(million).divide(q.multiply(f).add(million.subtract(q).multiply(g)));
            }
            return q.intValue();
        }

        /** By walking all ways of one length after the other. */
        int lap(int a, int b, int d, int what) {
            int n = now.tall.size();
            if (!in(a, 0, n - 1) || !in(b, 0, n - 1) || !in(d, 0, 99) || !in(what, 0, 1)) {
                return NONE;
            }
            long[] ways = new long[n];
            ways[a] = 1;
            for (int steps = 0; steps <= n; steps++) {
                if (ways[b] > 0) {
                    return what == 0 ? steps : (int) (ways[b] % 1000000007L);
                }
                long[] next = new long[n];
                for (int p = 0; p < n; p++) {
                    for (int q = 0; q < n; q++) {
                        if (p != q && Math.abs(p - q) <= 2 && Math.abs(now.tall.get(p) - now.tall.get(q)) <= d) {
                            next[q] += ways[p];
                        }
                    }
                }
                ways = next;
            }
            return NONE;
        }

        static int grundy(int heap, int most) {
            int[] g = new int[heap + 1];
            for (int h = 1; h <= heap; h++) {
                boolean[] can = new boolean[512];
                for (int t = 1; t <= Math.min(h, most); t++) {
                    can[g[h - t]] = true;
                }
                while (can[g[h]]) {
                    g[h]++;
                }
            }
            return g[heap];
        }

        int game(int what) {
            if (!in(what, 0, 1)) {
                return NONE;
            }
            int[] heap = new int[now.tall.size()];
            for (int p = 0; p < heap.length; p++) {
                heap[p] = now.sits.get(p) == null ? 0 : Math.abs(now.saints.get(now.sits.get(p)).doctrine);
            }
            for (int p = 0; p < heap.length; p++) {
                for (int t = 1; t <= Math.min(p + 1, heap[p]); t++) {
                    int all = 0;
                    for (int q = 0; q < heap.length; q++) {
                        all ^= grundy(q == p ? heap[q] - t : heap[q], q + 1);
                    }
                    if (all == 0) {
                        return what == 0 ? p : t;
                    }
                }
            }
            return NONE;
        }

        int undo() {
            if (past.isEmpty()) {
                return 0;
            }
            now = past.remove(past.size() - 1);
            return 1;
        }

        int image(boolean taken) {
            if (taken) {
                pictureSands = now.copy();
                pictureTexts = texts.copy();
                return 1;
            }
            if (pictureSands == null) {
                return 0;
            }
            now = pictureSands.copy();
            texts = pictureTexts.copy();
            past.clear();
            return 1;
        }

        int look(int what) {
            int dead = 0;
            for (int i = 0; i < now.saints.size(); i++) {
                dead |= now.saints.get(i).dead ? 1 << i : 0;
            }
            int[] all = {now.tall.size(), now.saints.size(), now.day, now.basket, now.left, now.weather, dead,
                now.ground.size(), now.book.size(), now.state, texts.law.size(), texts.sky.size(),
                texts.plan.size(), texts.tenets.size(), texts.builds.size(), past.size()};
            return in(what, 0, 15) ? all[what] : NONE;
        }
    }

    // ------------------------------------------------------------------ a run of random calls

    static final class Run {
        final int seed;
        final Random random;
        final PillarSaints x = new PillarSaints();
        final Model m = new Model();
        final StringBuilder told = new StringBuilder();
        int calls;
        boolean off;

        Run(int seed) {
            this.seed = seed;
            this.random = new Random(seed);
        }

        int r(int low, int high) {
            return low + random.nextInt(high - low + 1);
        }

        /** Mostly within the bounds, now and then beyond. */
        int near(int low, int high) {
            int k = random.nextInt(120);
            if (k == 0) {
                return low - 1;
            }
            if (k == 1) {
                return high + 1;
            }
            if (k == 2) {
                return random.nextInt();
            }
            if (k == 3) {
                return random.nextBoolean() ? Integer.MIN_VALUE : Integer.MAX_VALUE;
            }
            return k < 13 ? low : k < 22 ? high : high < low ? low : r(low, high);
        }

        void due(String call, int got, int want) {
            calls++;
            told.append("\n  ").append(call).append(" = ").append(want);
            if (got != want && !off) {
                off = true;
                wrong++;
                System.out.println("seed " + seed + told + "\n  BUT ANSWERED " + got);
            }
        }

        static int one(boolean b) {
            return b ? 1 : 0;
        }

        void go() {
            if (random.nextInt(10) > 0) {
                found(r(1, 10), r(1, 14));
            }
            if (random.nextInt(3) > 0) {
                put("dies 1;");
                due("text(0)", x.text(0), m.text(0));
            }
            // the longest part of a run has some thirty calls, and an object is used for 512 at most
            while (calls < 480 && !off) {
                call();
            }
        }

        void found(int pillars, int saints) {
            for (int i = 0; i < pillars; i++) {
                int t = r(1, random.nextBoolean() ? 99 : 9);
                due("pillar(" + t + ")", x.pillar(t), m.pillar(t));
            }
            for (int i = 0; i < saints; i++) {
                saint();
            }
        }

        void saint() {
            int a = near(0, random.nextInt(3) > 0 ? 60 : 120);
            int f = near(0, 9);
            int d = near(-99, 99);
            due("saint(" + a + ", " + f + ", " + d + ")", x.saint(a, f, d), m.saint(a, f, d));
        }

        void call() {
            int k = random.nextInt(100);
            if (k < 8) {
                text();
            } else if (k < 26) {
                days();
            } else if (k < 48) {
                act();
            } else if (k < 54) {
                tell();
            } else if (k < 58) {
                for (int i = r(1, 7); i > 0; i--) {
                    due("undo()", one(x.undo()), m.undo());
                }
            } else if (k < 61) {
                boolean taken = random.nextBoolean();
                due("image(" + taken + ")", one(x.image(taken)), m.image(taken));
            } else if (k < 63) {
                tapes();
            } else if (k < 80) {
                askState();
            } else {
                think();
            }
        }

        void days() {
            int n = random.nextInt(30) > 0 ? r(1, 2) : near(1, 60);
            due("days(" + n + ")", x.days(n), m.days(n));
        }

        void act() {
            int what = near(0, 3);
            int who = what == 2 ? near(0, m.now.saints.size() - 1) : near(0, m.now.tall.size() - 1);
            int v = what == 0 ? near(1, random.nextBoolean() ? 20 : 999) : what == 1 ? near(-99, 99) : near(1, 99);
            due("act(" + what + ", " + who + ", " + v + ")", one(x.act(what, who, v)), m.act(what, who, v));
        }

        void tell() {
            int k = random.nextInt(12);
            if (k == 0) {
                int v = random.nextInt();
                due("state(" + v + ")", x.state(v), m.state(v));
            } else if (k == 1) {
                int v = near(1, 99);
                due("pillar(" + v + ")", x.pillar(v), m.pillar(v));
            } else if (k < 4) {
                saint();
            } else if (k < 8) {
                int what = near(0, 4);
                int who = near(0, m.now.saints.size() - 1);
                int[] high = {120, 9, 99, 99, 9};
                int v = near(what == 2 ? -99 : 0, what >= 0 && what < 5 ? high[what] : 9);
                due("set(" + what + ", " + who + ", " + v + ")", one(x.set(what, who, v)), m.set(what, who, v));
            } else {
                int d = random.nextInt(15) == 0 ? NONE : near(1, random.nextBoolean() ? 4 : 30);
                int w = near(1, random.nextBoolean() ? 4 : 30);
                due("build(" + d + ", " + w + ")", x.build(d, w), m.build(d, w));
            }
        }

        void tapes() {
            int k = random.nextInt(3);
            if (k == 0) {
                int n = near(0, m.tape.length());
                due("end(" + n + ")", one(x.end(n)), m.end(n));
            } else if (k == 1) {
                int[] a = {random.nextInt(), random.nextInt(), random.nextInt(), random.nextInt(), random.nextInt()};
                due("feed(" + Arrays.toString(a) + ")", x.feed(a[0], a[1], a[2], a[3], a[4]), m.feed(a));
            } else {
                int t = random.nextBoolean() ? r(0, 3) : near(4, 4);
                due("text(" + t + ")", x.text(t), m.text(t));
                faults();
            }
        }

        void faults() {
            due("fault(0)", x.fault(0), m.fault(0));
            due("fault(1)", x.fault(1), m.fault(1));
            due("fault(2)", x.fault(2), m.fault(2));
        }

        String name() {
            String[] names = {"age", "faith", "doctrine", "hunger", "place", "tall", "weather", "above", "day"};
            return names[random.nextInt(names.length)];
        }

        String unit() {
            return random.nextBoolean() ? name() : "" + (random.nextInt(4) == 0 ? r(0, 9999) : r(0, 30));
        }

        String sum() {
            StringBuilder b = new StringBuilder(unit());
            while (random.nextInt(3) > 0) {
                int k = random.nextInt(4);
                b.append(k == 3 ? "/" + near(1, 12) : "+-*".charAt(k) + unit());
            }
            return b.toString();
        }

        String condition(int depth) {
            StringBuilder b = new StringBuilder(single(depth));
            while (random.nextInt(3) == 0) {
                b.append(random.nextBoolean() ? " and " : " or ").append(single(depth));
            }
            return b.toString();
        }

        String single(int depth) {
            int k = random.nextInt(6);
            if (k == 0 && depth > 0) {
                return "not " + single(depth - 1);
            }
            if (k == 1 && depth > 0) {
                return "(" + condition(depth - 1) + ")";
            }
            if (k == 2 && random.nextInt(60) == 0) {
                StringBuilder b = new StringBuilder();
                StringBuilder c = new StringBuilder();
                for (int i = r(7, 9); i > 0; i--) {
                    boolean not = random.nextBoolean();
                    b.append(not ? "not " : "(");
                    c.append(not ? "" : ")");
                }
                return b + "1=1" + c;
            }
            return sum() + "<=>".charAt(random.nextInt(3)) + sum();
        }

        String line(int k) {
            if (k == 0) {
                String[] words = {"eats", "leans", "eats", "leans", "eats", "leans", "dies"};
                return words[random.nextInt(words.length)] + " " + sum() + (random.nextInt(3) > 0 ? " when " + condition(3) : "") + ";";
            }
            int day = random.nextInt(4) == 0 ? near(0, 999) : m.now.day + r(0, 6);
            if (k == 1) {
                return "day " + day + " is " + near(0, 9) + ";";
            }
            if (k == 2) {
                int s = near(0, m.now.saints.size() - 1);
                int p = near(0, m.now.tall.size() - 1);
                String[] deeds = {"loaves " + near(0, random.nextBoolean() ? 20 : 999), "say " + near(0, 99), "down " + s,
                    "build " + p + " " + near(1, 99), "curse " + s};
                return "on " + day + " " + deeds[random.nextInt(5)] + "; ";
            }
            int high = random.nextBoolean() ? 15 : 6;
            StringBuilder b = new StringBuilder("" + near(0, high));
            while (random.nextInt(2) == 0) {
                b.append(" and ").append(near(0, high));
            }
            return b + " so " + near(0, high) + ";";
        }

        void text() {
            int k = r(0, 3);
            StringBuilder b = new StringBuilder();
            int lines = random.nextInt(8) == 0 ? r(15, 18) : r(0, 9);
            if (k == 0 && random.nextInt(4) > 0) {
                // few die, so that later calls still find some that live
                b.append("dies ").append(r(0, 20)).append(random.nextBoolean() ? "" : " when age<" + r(50, 119)).append(";");
            }
            for (int i = 0; i < lines; i++) {
                String l = line(k);
                if (b.length() + l.length() <= 400) {
                    b.append(l);
                }
            }
            if (lines > 14 && random.nextInt(3) == 0) {
                b.setLength(0);
                String[] shorts = {"eats 1;", "day 1 is 1;", "on 1 say 1;", "1 so 2;"};
                for (int i = 0; i < lines; i++) {
                    b.append(shorts[k]);
                }
                if (random.nextInt(3) == 0) {
                    b.append(k == 3 ? "99 so" : "then");
                }
            }
            if (random.nextInt(3) == 0) {
                spoil(b);
            }
            put(b.toString());
            due("text(" + k + ") of " + b.toString().replace('\n', '~'), x.text(k), m.text(k));
            faults();
        }

        void spoil(StringBuilder b) {
            String[] bits = {";", "(", ")", "not ", "+", "-", "*", "/", "/0", "<", "=", "and ", "or ", "when ", "so ", "12345", "00012",
                "x", "eatS", ".", "\n", "\t", "" + (char) 233, "day ", "is ", "on ", "say ", "16", "1000", "0", " ", "" + (char) 0};
            for (int i = r(1, 2); i > 0; i--) {
                int at = r(0, b.length());
                if (random.nextBoolean() && b.length() > 0) {
                    b.deleteCharAt(Math.min(at, b.length() - 1));
                } else {
                    b.insert(at, bits[random.nextInt(bits.length)]);
                }
            }
            if (b.length() > 400) {
                b.setLength(400);
            }
        }

        void put(String s) {
            due("end(0)", one(x.end(0)), m.end(0));
            for (int i = 0; i < s.length(); i += 20) {
                int[] a = new int[5];
                for (int j = 0; j < 20; j++) {
                    a[j / 4] = a[j / 4] << 8 | (i + j < s.length() ? s.charAt(i + j) : ' ');
                }
                due("feed(" + Arrays.toString(a) + ")", x.feed(a[0], a[1], a[2], a[3], a[4]), m.feed(a));
            }
            due("end(" + s.length() + ")", one(x.end(s.length())), m.end(s.length()));
        }

        void askState() {
            int k = random.nextInt(6);
            if (k == 0) {
                int w = near(0, 15);
                due("look(" + w + ")", x.look(w), m.look(w));
            } else if (k == 1) {
                for (int w = 0; w <= 16; w++) {
                    due("look(" + w + ")", x.look(w), m.look(w));
                }
            } else if (k == 2) {
                int s = near(0, m.now.saints.size() - 1);
                for (int w = -1; w <= 10; w++) {
                    due("of(" + s + ", " + w + ")", x.of(s, w), m.of(s, w));
                }
            } else if (k == 3) {
                int p = near(0, m.now.tall.size() - 1);
                for (int w = -1; w <= 3; w++) {
                    due("at(" + p + ", " + w + ")", x.at(p, w), m.at(p, w));
                }
            } else if (k == 4) {
                int i = random.nextInt(3) == 0 ? near(0, m.now.book.size() - 1) : m.now.book.size() - r(1, 3);
                for (int w = -1; w <= 4; w++) {
                    due("book(" + i + ", " + w + ")", x.book(i, w), m.book(i, w));
                }
            } else {
                int d = random.nextBoolean() ? m.now.day + r(-2, 5) : near(0, 9999);
                due("sky(" + d + ")", x.sky(d), d < 0 || d > 9999 ? NONE : m.sky(d));
            }
        }

        void think() {
            int n = m.now.tall.size();
            int w = near(0, 1);
            switch (random.nextInt(15)) {
                case 0:
                    int days = random.nextInt(3) > 0 ? r(1, 6) : near(1, 60);
                    int what = near(0, 3);
                    due("goes(" + days + ", " + what + ")", x.goes(days, what), m.goes(days, what));
                    break;
                case 1:
                    due("loaves()", x.loaves(), m.loaves());
                    break;
                case 2:
                    int h = near(0, 13);
                    due("heir(" + h + ")", x.heir(h), m.heir(h));
                    break;
                case 3:
                    int v = near(-99, 99);
                    int p = near(0, n - 1);
                    due("comes(" + v + ", " + p + ")", x.comes(v, p), m.comes(v, p));
                    break;
                case 4:
                    due("scandal(" + w + ")", x.scandal(w), m.scandal(w));
                    break;
                case 5:
                    due("middle(" + w + ")", x.middle(w), m.middle(w));
                    break;
                case 6:
                    int set = near(0, 65535) & (random.nextBoolean() ? -1 : random.nextInt());
                    due("follows(" + set + ")", x.follows(set), m.follows(set));
                    break;
                case 7:
                    int t = random.nextInt(6) > 0 && !m.texts.tenets.isEmpty()
                            ? m.texts.tenets.get(r(0, m.texts.tenets.size() - 1))[1] : near(0, 15);
                    int g = near(0, 2);
                    due("gives(" + t + ", " + g + ")", x.gives(t, g), m.gives(t, g));
                    break;
                case 8:
                    int s = near(0, 2);
                    due("seen(" + s + ")", x.seen(s), m.seen(s));
                    break;
                case 9:
                    int q = near(0, n - 1);
                    due("hears(" + q + ", " + w + ")", x.hears(q, w), m.hears(q, w));
                    break;
                case 10:
                    int b = random.nextInt(3) == 0 ? 0 : near(10, 9 + m.texts.builds.size());
                    due("builds(" + b + ")", x.builds(b), m.builds(b));
                    break;
                case 11:
                    int pp = near(0, 1000);
                    int nn = near(0, 20);
                    int mm = near(nn < 0 || nn > 40 ? 0 : nn, 40);
                    due("gone(" + pp + ", " + nn + ", " + mm + ")", x.gone(pp, nn, mm), m.gone(pp, nn, mm));
                    break;
                case 12:
                case 13:
                    int a = near(0, n - 1);
                    int c = near(0, n - 1);
                    int d = near(0, 99);
                    due("lap(" + a + ", " + c + ", " + d + ", " + w + ")", x.lap(a, c, d, w), m.lap(a, c, d, w));
                    break;
                default:
                    due("game(" + w + ")", x.game(w), m.game(w));
                    break;
            }
        }
    }
}

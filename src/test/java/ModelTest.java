import java.util.ArrayList;
import java.util.HashMap;
import java.util.List;
import java.util.Map;
import java.util.Random;

/**
 * Long runs of calls on the class and on a slow model of the document, whose answers must be the same. The model keeps
 * no knowledge but what each asker was told, and works all else out from that, table by table.
 */
public final class ModelTest {
    private static final int CALLS = 512;
    private static int wrong = 0;
    private static final int[] CALLS_MADE = new int[17];
    private static final Map<String, Integer> SEEN = new HashMap<>();

    private record Number(int owner, int least, int greatest, int need, int value) { }

    private record Question(int kind, List<Integer> numbers, int extra) {
        int answerIn(int[] table) {
            int sum = 0;
            int count = 0;
            int greatest = Integer.MIN_VALUE;
            int least = Integer.MAX_VALUE;
            for (int n : numbers) {
                sum += table[n];
                count += table[n] >= extra ? 1 : 0;
                greatest = Math.max(greatest, table[n]);
                least = Math.min(least, table[n]);
            }
            if (numbers.isEmpty()) {
                return 0;
            }
            return switch (kind) {
                case 0 -> sum / extra * extra;
                case 1 -> count;
                case 2 -> greatest;
                default -> least;
            };
        }
    }

    private record Fact(Question question, int answer) { }

    private record Wish(int kind, int set, int extra) { }

    private static final class Model {
        int people = 0;
        List<Number> numbers = new ArrayList<>();
        List<int[]> asks = new ArrayList<>();
        List<Wish> wishes = new ArrayList<>();
        List<List<Fact>> told = new ArrayList<>();
        int[] circle = {0, 1, 2, 3};
        Map<Integer, List<int[]>> leftOfCircle = new HashMap<>();

        Model() {
            for (int a = 0; a < 4; a++) {
                told.add(new ArrayList<>());
            }
        }

        Model copy() {
            Model m = new Model();
            m.people = people;
            m.numbers.addAll(numbers);
            m.asks.addAll(asks);
            m.wishes.addAll(wishes);
            m.circle = circle.clone();
            for (int a = 0; a < 4; a++) {
                m.told.get(a).addAll(told.get(a));
            }
            return m;
        }

        int tableCount() {
            int tables = 1;
            for (Number n : numbers) {
                tables *= n.greatest - n.least + 1;
            }
            return tables;
        }

        boolean canAdd(int value, int least, int greatest) {
            int sum = greatest;
            for (Number n : numbers) {
                sum += n.greatest;
            }
            return numbers.size() < 10 && value >= least && value <= greatest && sum <= 60
                && tableCount() * (greatest - least + 1) <= 4096;
        }

        int person(int value, int least, int greatest, int need) {
            if (least < 0 || greatest > 20 || least > greatest || need < 1 || need > greatest - least + 1
                    || people == 8 || !canAdd(value, least, greatest)) {
                return -1;
            }
            numbers.add(new Number(people, least, greatest, need, value));
            leftOfCircle.clear();
            return people++;
        }

        int numberOf(int person) {
            int found = -1;
            for (int n = 0; n < numbers.size(); n++) {
                if (numbers.get(n).owner == person) {
                    found = n;
                }
            }
            return found;
        }

        int change(int person, int value) {
            if (person < 0 || person >= people) {
                return -1;
            }
            Number old = numbers.get(numberOf(person));
            if (!canAdd(value, old.least, old.greatest)) {
                return -1;
            }
            numbers.add(new Number(person, old.least, old.greatest, old.need, value));
            leftOfCircle.clear();
            return numbers.size() - 1;
        }

        List<int[]> allTables() {
            List<int[]> tables = new ArrayList<>();
            tables.add(new int[0]);
            for (Number n : numbers) {
                List<int[]> longer = new ArrayList<>();
                for (int[] table : tables) {
                    for (int v = n.least; v <= n.greatest; v++) {
                        int[] next = java.util.Arrays.copyOf(table, table.length + 1);
                        next[table.length] = v;
                        longer.add(next);
                    }
                }
                tables = longer;
            }
            return tables;
        }

        List<int[]> left(int asker) {
            if (!leftOfCircle.containsKey(circle[asker])) {
                List<int[]> tables = allTables();
                for (int a = 0; a < 4; a++) {
                    if (circle[a] == circle[asker]) {
                        for (Fact fact : told.get(a)) {
                            tables.removeIf(t -> fact.question.answerIn(t) != fact.answer);
                        }
                    }
                }
                leftOfCircle.put(circle[asker], tables);
            }
            return leftOfCircle.get(circle[asker]);
        }

        Question question(int kind, int set, int extra) {
            List<Integer> of = new ArrayList<>();
            for (int p = 0; p < people; p++) {
                if ((set >> p & 1) == 1) {
                    of.add(numberOf(p));
                }
            }
            return new Question(kind, of, extra);
        }

        int masked(int set) {
            int only = 0;
            for (int p = 0; p < people; p++) {
                only += (set >> p & 1) << p;
            }
            return only;
        }

        boolean isQuestion(int kind, int extra) {
            return switch (kind) {
                case 0 -> extra >= 1 && extra <= 20;
                case 1 -> extra >= 0 && extra <= 20;
                case 2, 3 -> true;
                default -> false;
            };
        }

        int[] valuesOf(List<int[]> tables, int number) {
            return tables.stream().mapToInt(t -> t[number]).distinct().sorted().toArray();
        }

        int close(List<int[]> tables, int number) {
            int[] values = valuesOf(tables, number);
            return values[values.length - 1] - values[0] + 1;
        }

        boolean tooClose(List<int[]> tables) {
            for (int n = 0; n < numbers.size(); n++) {
                if (close(tables, n) < numbers.get(n).need) {
                    return true;
                }
            }
            return false;
        }

        Map<List<Integer>, List<int[]>> byAnswers(int asker, List<Question> questions) {
            Map<List<Integer>, List<int[]>> cells = new HashMap<>();
            for (int[] table : left(asker)) {
                List<Integer> row = new ArrayList<>();
                for (Question q : questions) {
                    row.add(q.answerIn(table));
                }
                cells.computeIfAbsent(row, k -> new ArrayList<>()).add(table);
            }
            return cells;
        }

        boolean anyTooClose(Map<List<Integer>, List<int[]>> cells) {
            for (List<int[]> cell : cells.values()) {
                if (tooClose(cell)) {
                    return true;
                }
            }
            return false;
        }

        int would(int asker, int kind, int set, int extra) {
            if (asker < 0 || asker > 3 || !isQuestion(kind, extra)) {
                return -1;
            }
            Map<List<Integer>, List<int[]>> cells = byAnswers(asker, List.of(question(kind, set, extra)));
            if (cells.size() == 1) {
                return 2;
            }
            return anyTooClose(cells) ? 0 : 1;
        }

        int ask(int asker, int kind, int set, int extra) {
            int how = asks.size() >= 200 ? -1 : would(asker, kind, set, extra);
            if (how == -1) {
                return -1;
            }
            int answer = -2;
            if (how > 0) {
                int[] hidden = numbers.stream().mapToInt(n -> n.value).toArray();
                Question question = question(kind, set, extra);
                answer = question.answerIn(hidden);
                told.get(asker).add(new Fact(question, answer));
                leftOfCircle.remove(circle[asker]);
            }
            asks.add(new int[] {asker, kind, masked(set), extra, answer});
            return answer;
        }

        int join(int a, int b) {
            if (a < 0 || b < 0 || a > 3 || b > 3 || circle[a] == circle[b]) {
                return 0;
            }
            int gone = circle[a];
            for (int i = 0; i < 4; i++) {
                if (circle[i] == gone) {
                    circle[i] = circle[b];
                }
            }
            leftOfCircle.clear();
            return 1;
        }

        int knows(int asker, int number, int what) {
            if (asker < 0 || asker > 3 || number < 0 || number >= numbers.size()) {
                return -1;
            }
            int[] values = valuesOf(left(asker), number);
            return switch (what) {
                case 0 -> values[0];
                case 1 -> values[values.length - 1];
                case 2 -> values.length;
                case 3 -> close(left(asker), number);
                default -> -1;
            };
        }

        int tables(int asker) {
            return asker < 0 || asker > 3 ? -1 : left(asker).size();
        }

        int broken(int asker) {
            return asker >= 0 && asker <= 3 && tooClose(left(asker)) ? 1 : 0;
        }

        int tell(int k, int what) {
            if (what == 0) {
                return k >= 0 && k < people ? numberOf(k) : -1;
            }
            if (k < 0 || k >= numbers.size()) {
                return -1;
            }
            Number n = numbers.get(k);
            return switch (what) {
                case 1 -> n.owner;
                case 2 -> n.least;
                case 3 -> n.greatest;
                case 4 -> n.need;
                case 5 -> numberOf(n.owner) == k ? 1 : 0;
                case 6 -> n.value;
                default -> -1;
            };
        }

        int asked(int k, int what) {
            return k < 0 || k >= asks.size() || what < 0 || what > 4 ? -1 : asks.get(k)[what];
        }

        int wish(int kind, int set, int extra) {
            if (wishes.size() == 8 || !isQuestion(kind, extra)) {
                return -1;
            }
            wishes.add(new Wish(kind, masked(set), extra));
            return wishes.size() - 1;
        }

        int together(int asker, int set) {
            if (asker < 0 || asker > 3 || set < 0 || set >> wishes.size() != 0) {
                return 0;
            }
            List<Question> questions = new ArrayList<>();
            for (int w = 0; w < wishes.size(); w++) {
                if ((set >> w & 1) == 1) {
                    Wish wish = wishes.get(w);
                    questions.add(question(wish.kind, wish.set, wish.extra));
                }
            }
            return set == 0 || !anyTooClose(byAnswers(asker, questions)) ? 1 : 0;
        }

        int most(int asker) {
            if (asker < 0 || asker > 3) {
                return -1;
            }
            int best = 0;
            for (int set = 1; set < 1 << wishes.size(); set++) {
                if (Integer.bitCount(set) > Integer.bitCount(best) && together(asker, set) == 1) {
                    best = set;
                }
            }
            return best;
        }

        int count(int what) {
            return switch (what) {
                case 0 -> people;
                case 1 -> numbers.size();
                case 2 -> tableCount();
                case 3 -> asks.size();
                case 4 -> (int) asks.stream().filter(a -> a[4] == -2).count();
                case 5 -> wishes.size();
                case 6 -> (int) java.util.Arrays.stream(circle).distinct().count();
                default -> -1;
            };
        }
    }

    /** One run: an object and its model, called alike. */
    private static final class Run {
        final Random random;
        final SumsThatTell real = new SumsThatTell();
        Model model = new Model();
        final Model[] images = new Model[3];
        final int maxValues;
        final boolean lowNeeds;

        Run(long seed, int maxValues) {
            random = new Random(seed);
            this.maxValues = maxValues;
            lowNeeds = random.nextBoolean();
        }

        /** Mostly 0 .. limit - 1, sometimes just outside or far off. */
        int about(int limit) {
            return switch (random.nextInt(40)) {
                case 0 -> -1;
                case 1 -> limit;
                case 2 -> random.nextInt();
                default -> random.nextInt(Math.max(1, limit));
            };
        }

        int someSet() {
            return random.nextInt(10) == 0 ? random.nextInt() : random.nextInt(1 << Math.min(8, model.people + 1));
        }

        int someExtra() {
            return random.nextInt(4) == 0 ? about(22) : 1 + random.nextInt(maxValues + 2);
        }

        void person() {
            int least = random.nextInt(10) == 0 ? about(20) : random.nextInt(3);
            int values = random.nextInt(4) == 0 ? 1 : 1 + random.nextInt(maxValues);
            int greatest = random.nextInt(15) == 0 ? about(22) : least + values - 1;
            int value = random.nextInt(15) == 0 ? about(22) : least + random.nextInt(values);
            int need = random.nextInt(15) == 0 ? about(10) : 1 + random.nextInt(lowNeeds ? Math.min(2, values) : values);
            same(0, "person(" + value + ", " + least + ", " + greatest + ", " + need + ")",
                real.person(value, least, greatest, need), model.person(value, least, greatest, need));
        }

        void change() {
            int person = about(model.people);
            int value = about(maxValues + 2);
            same(1, "change(" + person + ", " + value + ")", real.change(person, value), model.change(person, value));
        }

        void askOrWould(boolean really) {
            int asker = about(4);
            int kind = about(4);
            int set = someSet();
            int extra = someExtra();
            String text = "(" + asker + ", " + kind + ", " + set + ", " + extra + ")";
            if (really) {
                same(2, "ask" + text, real.ask(asker, kind, set, extra), model.ask(asker, kind, set, extra));
            } else {
                same(3, "would" + text, real.would(asker, kind, set, extra), model.would(asker, kind, set, extra));
            }
        }

        void join() {
            int a = about(4);
            int b = about(4);
            same(4, "join(" + a + ", " + b + ")", real.join(a, b) ? 1 : 0, model.join(a, b));
        }

        void knows() {
            int asker = about(4);
            int number = about(model.numbers.size());
            int what = about(4);
            same(5, "knows(" + asker + ", " + number + ", " + what + ")", real.knows(asker, number, what),
                model.knows(asker, number, what));
        }

        void wish() {
            int kind = about(4);
            int set = someSet();
            int extra = someExtra();
            same(6, "wish(" + kind + ", " + set + ", " + extra + ")", real.wish(kind, set, extra),
                model.wish(kind, set, extra));
        }

        void most() {
            int asker = about(4);
            same(7, "most(" + asker + ")", real.most(asker), model.most(asker));
        }

        void together() {
            int asker = about(4);
            int set = about(1 << model.wishes.size());
            same(8, "together(" + asker + ", " + set + ")", real.together(asker, set) ? 1 : 0,
                model.together(asker, set));
        }

        void lookUp() {
            int what = about(7);
            int asker = about(4);
            int k = about(model.numbers.size());
            int ask = about(model.asks.size());
            int part = about(5);
            same(9, "count(" + what + ")", real.count(what), model.count(what));
            same(10, "tables(" + asker + ")", real.tables(asker), model.tables(asker));
            same(11, "broken(" + asker + ")", real.broken(asker) ? 1 : 0, model.broken(asker));
            same(12, "tell(" + k + ", " + what + ")", real.tell(k, what), model.tell(k, what));
            same(13, "asked(" + ask + ", " + part + ")", real.asked(ask, part), model.asked(ask, part));
        }

        void image() {
            int k = about(3);
            boolean fine = k >= 0 && k < 3;
            same(14, "image(" + k + ")", real.image(k) ? 1 : 0, fine ? 1 : 0);
            if (fine) {
                images[k] = model.copy();
            }
        }

        void again() {
            int k = about(3);
            boolean fine = k >= 0 && k < 3 && images[k] != null;
            same(15, "again(" + k + ")", real.again(k) ? 1 : 0, fine ? 1 : 0);
            if (fine) {
                model = images[k].copy();
            }
        }

        void clear() {
            CALLS_MADE[16]++;
            real.clear();
            model.wishes.clear();
        }

        void step() {
            int pick = random.nextInt(100);
            if (pick < 8) {
                person();
            } else if (pick < 11) {
                change();
            } else if (pick < 35) {
                askOrWould(true);
            } else if (pick < 50) {
                askOrWould(false);
            } else if (pick < 52) {
                join();
            } else if (pick < 65) {
                knows();
            } else if (pick < 75) {
                wish();
            } else if (pick < (maxValues > 4 ? 76 : 79)) {
                most();
            } else if (pick < 86) {
                together();
            } else if (pick < 93) {
                lookUp();
            } else if (pick < 96) {
                image();
            } else if (pick < 99) {
                again();
            } else {
                clear();
            }
        }

        int calls = 0;

        void same(int which, String call, int got, int want) {
            calls++;
            CALLS_MADE[which]++;
            if (which == 3 || which == 4 || which == 8 || which == 11) {
                SEEN.merge(call.substring(0, call.indexOf('(')) + "=" + want, 1, Integer::sum);
            }
            if (got != want) {
                wrong++;
                System.out.println(call + ", call " + calls + ", answered " + got + ", the model's answer is " + want);
            }
        }
    }

    private static void run(long seed, int maxValues) {
        Run run = new Run(seed, maxValues);
        int before = wrong;
        while (run.calls < CALLS - 5 && wrong == before) {
            run.step();
        }
        if (wrong != before) {
            System.out.println("in run " + seed + " with up to " + maxValues + " values");
        }
    }

    public static void main(String[] args) {
        int runs = args.length > 0 ? Integer.parseInt(args[0]) : 150;
        for (int i = 0; i < runs && wrong < 10; i++) {
            run(i, 2 + i % 5);
        }
        for (int i = 0; i < runs / 15 && wrong < 10; i++) {
            run(1000000 + i, 21);
        }
        int calls = 0;
        for (int made : CALLS_MADE) {
            calls += made;
            if (made == 0) {
                wrong++;
                System.out.println("some kind of call was never made");
            }
        }
        System.out.println(calls + " calls, " + wrong + " not as due; " + new java.util.TreeMap<>(SEEN));
        if (wrong != 0) {
            System.exit(1);
        }
    }
}

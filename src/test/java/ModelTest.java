import java.util.ArrayList;
import java.util.Arrays;
import java.util.List;
import java.util.Random;

/**
 * Runs of 512 calls drawn by seeds, each answer against the model's: runs of calls that mostly have a sense,
 * with all counts towards the end of each; and runs of any call of the face with any numbers.
 */
public final class ModelTest {
    private static final int CALLS = 512;
    private static final int COUNTS = 22;
    /** So many calls of the object one drawn call may make. */
    private static final int MOST_AT_ONCE = 4;
    private static final int[] EDGES = {Integer.MIN_VALUE, Integer.MIN_VALUE + 1, -9, -2, -1, 0, 1, 2, 7, 8, 9, 10,
        20, 21, 40, 41, 80, 255, 256, 1 << 28, 306783379, Integer.MAX_VALUE - 1, Integer.MAX_VALUE};
    private static final String[] OF_WALKER = {"there", "comes", "through", "opens", "stands", "by", "runs", "loss"};

    private final Check check = new Check("ModelTest");
    private Random random;
    private DoorIsHeld door;
    private int begun;
    private Model model;

    public static void main(String[] args) {
        ModelTest test = new ModelTest();
        int runs = args.length > 0 ? Integer.parseInt(args[0]) : 1500;
        for (int seed = 0; seed < runs && !test.check.anyWrong(); seed++) {
            test.run(seed);
            test.anyRun(seed);
        }
        test.check.end();
    }

    private void run(int seed) {
        random = new Random(seed);
        door = new DoorIsHeld();
        model = new Model();
        begun = check.asked();
        while (left() > COUNTS + MOST_AT_ONCE && !check.anyWrong()) {
            if (random.nextInt(6) == 0) {
                tellWay(left() - COUNTS - 1);
            } else {
                oneCall();
            }
        }
        for (int what = -2; what < COUNTS - 2; what++) {
            check.due("count(" + what + ")", door.count(what), model.count(what));
        }
        while (left() > 0 && !check.anyWrong()) {
            ofWalker(OF_WALKER[random.nextInt(OF_WALKER.length)]);
        }
        if (check.anyWrong()) {
            System.out.println("in the run of seed " + seed + ", about call " + (CALLS - left()));
        }
    }

    /** Any call behind any other: a way now and then, lest nobody ever comes, and else whatever is drawn. */
    private void anyRun(int seed) {
        random = new Random(~seed);
        door = new DoorIsHeld();
        model = new Model();
        begun = check.asked();
        List<String> names = new ArrayList<>(Step.METHODS.keySet());
        names.sort(null);
        while (left() > 0 && !check.anyWrong()) {
            if (left() > 82 && random.nextInt(20) == 0) {
                tellWay(81);
            } else {
                String name = names.get(random.nextInt(names.size()));
                int[] numbers = anyNumbers(Step.METHODS.get(name).getParameterCount());
                check.due(name + Arrays.toString(numbers), Step.call(door, name, numbers), model.call(name, numbers));
            }
        }
        if (check.anyWrong()) {
            System.out.println("in the run of any calls of seed " + seed + ", call " + (CALLS - left()));
        }
    }

    private int[] anyNumbers(int many) {
        int[] numbers = new int[many];
        for (int i = 0; i < many; i++) {
            int sort = random.nextInt(24);
            numbers[i] = sort == 0 ? EDGES[random.nextInt(EDGES.length)]
                : sort == 1 ? random.nextInt() : sort == 2 ? random.nextInt(300) - 20 : random.nextInt(sort < 15 ? 3 : 9);
        }
        return numbers;
    }

    private int left() {
        return CALLS - (check.asked() - begun);
    }

    /** A number between 0 and most, now and then one outside or far away. */
    private int some(int most) {
        int sort = random.nextInt(25);
        if (sort == 0) {
            return EDGES[random.nextInt(EDGES.length)];
        }
        if (sort == 1) {
            return random.nextBoolean() ? -1 : most + 1;
        }
        return random.nextInt(most + 1);
    }

    private int someWalker() {
        int walkers = model.world.walkers.size();
        return walkers == 0 ? some(8) : some(walkers - 1);
    }

    private String statement() {
        int sort = random.nextInt(10);
        StringBuilder text = new StringBuilder();
        if (sort == 0) {
            text.append('d').append(random.nextInt(20) == 0 ? 0 : 1 + random.nextInt(9))
                .append(random.nextInt(10)).append(random.nextInt(10));
        } else if (sort <= 2) {
            text.append('c').append(random.nextInt(random.nextInt(12) == 0 ? 10 : 7)).append(number(random.nextInt(random.nextInt(12) == 0 ? 60 : 41)));
        } else {
            boolean wild = random.nextInt(15) == 0;
            text.append("prhbco".charAt(random.nextInt(6)))
                .insert(0, 'w')
                .append(number(random.nextInt(random.nextInt(4) == 0 ? 100 : 20))).append(',')
                .append(number(wild ? random.nextInt(100) : 1 + random.nextInt(40))).append(',')
                .append(wild ? random.nextInt(10) : 1 + random.nextInt(4))
                .append(random.nextInt(wild ? 5 : 3)).append(random.nextInt(wild ? 3 : 2)).append(random.nextInt(10));
        }
        return text.append(';').toString();
    }

    private String number(int n) {
        return n < 10 && random.nextBoolean() ? "0" + n : Integer.toString(n);
    }

    private void tellWay(int most) {
        StringBuilder text = new StringBuilder();
        int statements = random.nextInt(8);
        for (int i = 0; i < statements; i++) {
            text.append(statement());
        }
        if (random.nextInt(4) == 0) {
            spoil(text);
        }
        for (int i = 0; i < text.length() && i < most - 1; i++) {
            check.due("letter", door.letter(text.charAt(i)), model.letter(text.charAt(i)));
        }
        check.due("way() of " + text, door.way(), model.way());
    }

    private void spoil(StringBuilder text) {
        if (text.length() == 0) {
            return;
        }
        int place = random.nextInt(text.length());
        int how = random.nextInt(4);
        if (how == 0) {
            text.deleteCharAt(place);
        } else if (how == 1) {
            text.insert(place, "dcwprhbo0123456789,;x".charAt(random.nextInt(21)));
        } else if (how == 2) {
            text.setCharAt(place, (char) random.nextInt(256));
        } else {
            text.setLength(place);
        }
    }

    private void oneCall() {
        int which = random.nextInt(30);
        if (which < 8) {
            ofWalker(OF_WALKER[which]);
        } else if (which < 16) {
            telling(which);
        } else if (which < 24) {
            inMind(which);
        } else {
            behind(which);
        }
    }

    private void ofWalker(String call) {
        int w = someWalker();
        int got = switch (call) {
            case "there" -> door.there(w);
            case "comes" -> door.comes(w);
            case "through" -> door.through(w);
            case "opens" -> door.opens(w);
            case "stands" -> door.stands(w);
            case "by" -> door.by(w);
            case "runs" -> door.runs(w);
            default -> door.loss(w);
        };
        check.due(call + "(" + w + ")", got, model.ofWalker(call, w));
    }

    private void telling(int which) {
        int a = some(3);
        int b = some(9);
        int w = someWalker();
        int u = someWalker();
        int bit = some(1);
        switch (which) {
            case 8 -> check.due("letter(" + b + ")", door.letter(b), model.letter(b));
            case 9 -> check.due("way()", door.way(), model.way());
            case 10 -> check.due("walker", door.walker(w, b), model.walker(w, b));
            case 11 -> {
                int v = some(a == 3 ? 40 : 9);
                check.due("set(" + a + ", " + v + ")", door.set(a, v), model.set(a, v));
            }
            case 12 -> {
                int v = some(6);
                check.due("custom(" + v + ")", door.custom(v), model.custom(v));
            }
            case 13 -> check.due("far(" + w + ", " + u + ", " + bit + ")", door.far(w, u, bit), model.far(w, u, bit));
            case 14 -> check.due("order(" + b + ")", door.order(b), model.order(b));
            default -> check.due("count(" + b + ")", door.count(b), model.count(b));
        }
    }

    private void inMind(int which) {
        switch (which) {
            case 16 -> {
                check.due("holds()", door.holds(), model.world.holds());
                check.due("longest()", door.longest(), model.longest());
            }
            case 17 -> {
                check.due("away()", door.away(), model.away());
                check.due("loss(-1)", door.loss(-1), model.world.loss());
            }
            case 18 -> {
                check.due("open()", door.open(), model.world.open());
                check.due("coals()", door.coals(), model.world.open() * model.world.warmth);
            }
            case 19 -> {
                int custom = some(6);
                int far = some(40);
                check.due("byOther", door.byOther(custom, far), model.byOther(custom, far));
            }
            case 20 -> check.due("bestFar()", door.bestFar(), model.bestFar());
            case 21 -> check.due("bestCustom()", door.bestCustom(), model.bestCustom());
            case 22 -> check.due("bestShuts()", door.bestShuts(), model.bestShuts());
            default -> {
                int w = someWalker();
                check.due("worse()", door.worse(), model.worse());
                check.due("followed()", door.followed(), model.followed());
                check.due("porter()", door.porter(), model.lossBy(0, model.world.far));
                check.due("alone(" + w + ")", door.alone(w), model.alone(w));
            }
        }
    }

    private void behind(int which) {
        int yards = some(40);
        int looks = some(1);
        int bags = some(2);
        switch (which) {
            case 24 -> {
                int held = random.nextInt(3) == 0 ? some(1) : yards < 9 ? 1 : 0;
                check.due("film", door.film(yards, looks, bags, held), model.film(yards, looks, bags, held));
            }
            case 25 -> check.due("told", door.told(yards, looks, bags), model.told(yards, looks, bags));
            case 26 -> {
                int custom = 1 + some(2);
                int what = some(2);
                check.due("fitting(" + custom + ", " + what + ")", door.fitting(custom, what), model.fitting(custom, what));
            }
            case 27 -> {
                int n = some(20);
                int z = random.nextInt(3) == 0 ? some(9) : random.nextInt();
                check.due("seeds(" + n + ", " + z + ")", door.seeds(n, z), model.seeds(n, z));
            }
            case 28 -> {
                int i = model.row.size();
                boolean right = i < model.world.walkers.size() && random.nextInt(8) > 0;
                int v = right ? model.order(i) : some(9);
                check.due("row(" + v + ")", door.row(v), model.row(v));
                if (random.nextInt(4) == 0) {
                    check.due("judge()", door.judge(), model.judge());
                }
            }
            default -> {
                int sort = random.nextInt(4);
                if (sort == 0) {
                    check.due("image()", door.image(), model.image());
                } else if (sort == 1) {
                    check.due("on()", door.on(), model.on());
                } else {
                    check.due("judge()", door.judge(), model.judge());
                }
            }
        }
    }
}

import java.util.Random;

/** Calls by chance, with any arguments in any state: nothing is thrown but what the face says. */
final class WildTest {
    private static final int[] OFTEN = {0, 1, 2, 3, 4, 9, 10, 21, 0, 54, 0, 25, 1, 58, 1, 87, 89, 96, 108, 153, 0, 3, 167,
        0, 4, 177, 172, 176, 184, 0, 187, 1, 183, 1, 188, 10, 190, 191, 178, 0, 179, 0, 193, 0};

    public static void main(String[] args) {
        for (int seed = 0; seed < 3000; seed++) {
            Random random = new Random(seed);
            MapFramer x = new MapFramer();
            for (int call = 0; call < 512; call++) {
                String what = "seed " + seed + " call " + call;
                try {
                    any(x, random, random.nextInt(26));
                } catch (IllegalArgumentException | IllegalStateException | UnsupportedOperationException e) {
                    Check.same(what, e.getStackTrace()[0].getClassName(), "MapFramer");
                } catch (IndexOutOfBoundsException e) {
                    Check.same(what, e.getClass() == IndexOutOfBoundsException.class
                        && e.getStackTrace()[0].getClassName().equals("MapFramer"), true);
                } catch (RuntimeException e) {
                    Check.same(what, e, "no such exception");
                }
            }
        }
        Check.end("WildTest");
    }

    private static int number(Random random) {
        int kind = random.nextInt(20);
        return kind == 0 ? random.nextInt() : kind == 1 ? random.nextInt(200) - 50
            : kind == 2 ? Integer.MIN_VALUE + random.nextInt(2) : kind == 3 ? Integer.MAX_VALUE : random.nextInt(8);
    }

    private static int word(Random random) {
        int word = 0;
        for (int k = 0; k < 4; k++) {
            word = word << 8 | (random.nextInt(40) == 0 ? random.nextInt(256) : OFTEN[random.nextInt(OFTEN.length)]);
        }
        return word;
    }

    private static void any(MapFramer x, Random random, int which) {
        int method = random.nextInt(10) == 0 ? number(random) : random.nextInt(8);
        switch (which) {
            case 0 -> x.cls(number(random), random.nextBoolean());
            case 1 -> x.field(number(random), random.nextBoolean() ? 32 + number(random) : number(random),
                random.nextBoolean());
            case 2, 3 -> x.method(random.nextInt(4) == 0 ? random.nextInt() : random.nextInt(3) * 257 & 0x3FF,
                random.nextInt(5) == 0 ? 32 + number(random) : number(random));
            case 4, 5, 6 -> x.code(method, 1 + random.nextInt(12), random.nextInt(6), 2 + random.nextInt(8));
            case 7 -> x.code(number(random), number(random), number(random), number(random));
            case 8 -> x.handler(method, random.nextInt(4), random.nextInt(8), random.nextInt(8), number(random) - 1);
            case 9, 10 -> x.verify(method);
            case 11 -> x.about(method, number(random));
            case 12 -> x.codeAt(method, number(random));
            case 13 -> x.frameAt(method, number(random));
            case 14 -> x.handlerAt(method, number(random), number(random));
            case 15 -> x.typeAt(method, number(random), number(random) + (random.nextBoolean() ? 100 : 0));
            case 16, 17 -> x.run(method, random.nextLong(), number(random), 1 + random.nextInt(300));
            case 18 -> x.run(method, 0, 0, number(random));
            case 19 -> x.end(number(random));
            case 20 -> x.count(number(random));
            default -> x.feed(word(random));
        }
    }
}

import java.util.List;
import java.util.Random;

/** Streets by lots, held against the terms said again in the plainest way. */
public final class PlainTest {
    private static final Check CHECK = new Check("PlainTest");
    private static final int STREETS = 400;
    private static final int NONE = PaperWalls.NONE;

    public static void main(String[] args) {
        for (int n = 0; n < STREETS; n++) {
            Random random = new Random(n);
            PlainWalls plain = street(random);
            talks(random, plain);
            String name = "street " + n + " (" + plain.words() + ")";
            hearing(name, random, plain, made(plain));
            talking(name, random, plain, made(plain));
            hours(name, plain, made(plain));
            changing(name, plain, made(plain));
            knowing(name, random, plain, made(plain));
        }
        CHECK.end();
    }

    /** For each part anew, as an object answers 512 calls only. */
    private static PaperWalls made(PlainWalls plain) {
        PaperWalls walls = Streets.of(plain.words());
        for (int i = 0; i < plain.layers.size(); i++) {
            walls.wall(i, plain.layers.get(i));
        }
        for (int[] talk : plain.talks) {
            walls.talk(talk[0], talk[1], talk[2]);
        }
        return walls;
    }

    private static PlainWalls street(Random random) {
        PlainWalls plain = new PlainWalls();
        int walls = 1 + random.nextInt(6);
        int thick = 1 + random.nextInt(random.nextInt(8) == 0 ? 20 : 5);
        for (int i = 0; i < walls; i++) {
            plain.layers.add(random.nextInt(thick + 1));
        }
        int people = 1 + random.nextInt(7);
        for (int x = 0; x < people; x++) {
            plain.letters.append("olwdsi".charAt(random.nextInt(6)));
            plain.rooms.add(random.nextInt(walls + 1));
        }
        return plain;
    }

    private static void talks(Random random, PlainWalls plain) {
        int all = random.nextInt(9);
        for (int k = 0; k < all && plain.people() > 1; k++) {
            int x = random.nextInt(plain.people());
            int to = (x + 1 + random.nextInt(plain.people() - 1)) % plain.people();
            int not = random.nextInt(1 << plain.people()) & random.nextInt(1 << plain.people());
            not &= ~(1 << x) & ~(1 << to);
            plain.talks.add(new int[] {x, to, not});
        }
    }

    private static void hearing(String name, Random random, PlainWalls plain, PaperWalls walls) {
        int all = 1 << plain.people();
        for (int n = 0; n < 10; n++) {
            int singing = random.nextInt(all);
            for (int room = 0; room <= plain.layers.size(); room++) {
                CHECK.due(name + " noise", walls.noise(room, singing), plain.noise(room, singing));
            }
            for (int x = 0; x < plain.people(); x++) {
                if (!PlainWalls.has(singing, x)) {
                    CHECK.due(name + " heard", walls.heard(x, singing), plain.heard(x, singing));
                }
            }
        }
        for (int x = 0; x < plain.people(); x++) {
            int hush = plain.hush(x);
            CHECK.dueTold(name + " hush", walls, walls.hush(x), PlainWalls.size(hush), hush);
        }
        for (int room = 0; room <= plain.layers.size(); room++) {
            CHECK.due(name + " rent", walls.rent(room), plain.rent(room));
        }
    }

    private static void talking(String name, Random random, PlainWalls plain, PaperWalls walls) {
        for (int k = 0; k < plain.talks.size(); k++) {
            int[] talk = plain.talks.get(k);
            for (int n = 0; n < 10; n++) {
                int singing = random.nextInt(1 << plain.people()) & ~(1 << talk[0]);
                int over = plain.heard(talk[0], singing) & talk[2];
                CHECK.dueTold(name + " safe", walls, walls.safe(k, singing),
                    plain.isSafe(talk, singing, 0) ? 1 : 0, over);
            }
            int cover = plain.cover(k);
            int told = walls.asked();
            CHECK.dueTold(name + " cover", walls, walls.cover(k),
                cover < 0 ? NONE : PlainWalls.size(cover), cover < 0 ? told : cover);
            List<Integer> pasted = plain.paste(k);
            int sum = 0;
            for (int i = 0; pasted != null && i < pasted.size(); i++) {
                sum += pasted.get(i);
            }
            CHECK.due(name + " paste", walls.paste(k, 0), pasted == null ? NONE : sum);
            CHECK.due(name + " paste, row", pasted == null || isRow(walls, 0, pasted) ? 1 : 0, 1);
        }
    }

    private static boolean isRow(PaperWalls walls, int r, List<Integer> want) {
        return Streets.isRow(walls, r, want.stream().mapToInt(Integer::intValue).toArray());
    }

    private static void hours(String name, PlainWalls plain, PaperWalls walls) {
        for (int set = 0; set < 1 << plain.talks.size(); set++) {
            CHECK.due(name + " beside " + set, walls.beside(set), plain.beside(set) ? 1 : 0);
        }
        int[] turns = plain.turns();
        int told = walls.asked();
        CHECK.dueTold(name + " turns", walls, walls.turns(),
            turns == null ? NONE : turns[0], turns == null ? told : turns[1]);
        int most = plain.most();
        CHECK.dueTold(name + " most", walls, walls.most(), PlainWalls.size(most), most);
        int safes = plain.safes();
        CHECK.dueTold(name + " safes", walls, walls.safes(), PlainWalls.size(safes), safes);
    }

    private static void changing(String name, PlainWalls plain, PaperWalls walls) {
        long street = walls.digest();
        int[] swap = plain.swap();
        int told = walls.asked();
        CHECK.dueTold(name + " swap", walls, walls.swap(),
            swap == null ? NONE : 10 * swap[0] + swap[1], swap == null ? told : swap[2]);
        CHECK.due(name + " digest", walls.digest(), street);
        List<Integer> order = plain.bestRooms();
        CHECK.due(name + " rooms", walls.rooms(5), PlainWalls.size(plain.ordered(order).safes()));
        CHECK.due(name + " rooms, row", isRow(walls, 5, order) ? 1 : 0, 1);
        for (int x = 0; x < plain.people(); x++) {
            for (int from = 0; from < plain.people(); from++) {
                if (x != from) {
                    int[] torn = plain.tearOff(x, from);
                    int before = walls.asked();
                    CHECK.dueTold(name + " tearOff", walls, walls.tearOff(x, from),
                        torn == null ? NONE : torn[0], torn == null ? before : torn[1]);
                }
            }
        }
    }

    private static void knowing(String name, Random random, PlainWalls plain, PaperWalls walls) {
        int who = 0;
        for (int x = 0; x < plain.people(); x++) {
            if (random.nextInt(4) == 0) {
                walls.comes(x, 3);
                who |= 1 << x;
            }
        }
        for (int n = 0; n <= 20; n++) {
            CHECK.due(name + " spread", walls.spread(3, n), plain.spread(who, n));
        }
        for (int set = 0; set < 1 << plain.people(); set++) {
            CHECK.due(name + " leak", walls.leak(set), plain.leak(set));
            CHECK.due(name + " leaks", walls.leaks(set), plain.leaks(set));
        }
    }
}

/** The turns of a simulation, told by the document's words with the face's own methods. */
final class Turns {
    private Turns() {
    }

    /** What a turn does, told by the document's words with the face's own methods. */
    private static void turn(SplicedLoops x, int r) {
        int q = r / 16;
        switch (r % 16) {
            case 0: x.reel(2 + q % 59); break;
            case 1: x.loop(); break;
            case 2: case 3: case 4: x.paint(q % 3, q / 4 % 60, q / 4 % 60 + q / 256 % 8, q / 2048 % 10); break;
            case 5: case 6: case 7: case 8: x.splice(q % 4, q / 4 % 3, q / 16 % 61, q / 16 % 61 + 1 + q / 1024 % 20); break;
            case 9: x.speed(q % 4, 1 + q / 4 % 9, 1 + q / 64 % 9); break;
            case 10:
                if (q / 8 % 2 == 0) {
                    x.mute(q % 4, q / 4 % 2 == 1);
                } else {
                    x.unsplice(q % 4);
                }
                break;
            case 11: x.record(q % 3, 1 + q / 4 % 40); break;
            default: x.ticks(1 + q % 50); break;
        }
    }

    static int byTurns(SplicedLoops x, long seed, int m) {
        long s = seed;
        for (int i = 0; i < m; i++) {
            s = s * 6364136223846793005L + 1442695040888963407L;
            int r = (int) (s >>> 33);
            Due.answer(() -> {
                turn(x, r);
                return "";
            });
        }
        return 1000 * x.about(6) + x.about(3);
    }
}

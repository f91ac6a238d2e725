/** One CHANNEL forged with one PASS of TERM 1 and DELTA 7, of which each WEIGHT and VALUE' is known. */
final class Chain {
    final Forge forge;
    int weight = 0;
    int last = 0;
    int written = 0;

    Chain(int frames, int error) {
        forge = new Forge(0, frames, error).pass(1, 7);
    }

    int guess() {
        return (int) Math.floorDiv((long) weight * last + 512, 1024L);
    }

    /** Writes a REST: the VALUE' that it gives. */
    int rest(int rest) {
        int near = forge.near(0, rest);
        int value = near + guess();
        int sign = Integer.signum(last) * Integer.signum(near);
        weight = Math.max(-1024, Math.min(1024, weight + 7 * sign));
        forge.frame(rest);
        written++;
        last = value;
        return value;
    }

    /** Writes the REST that gives such a VALUE'. */
    void value(int value) {
        int near = value - guess();
        for (int off = 0; off < 3; off++) {
            for (int rest : new int[] {near - off, near + off}) {
                if (forge.near(0, rest) == near) {
                    rest(rest);
                    return;
                }
            }
        }
        throw new IllegalStateException("no REST gives " + value);
    }
}
